theorem dX12_thrown_0 : decode cX12_thrown 0 = .ok (.aload_n 0, 1) := by decide +kernel
theorem dX12_thrown_1 : decode cX12_thrown 1 = .ok (.getfield 133, 3) := by decide +kernel
theorem dX12_thrown_4 : decode cX12_thrown 4 = .ok (.ireturn, 1) := by decide +kernel
theorem dX12_in_0 : decode cX12_in 0 = .ok (.iload_n 0, 1) := by decide +kernel
theorem dX12_in_1 : decode cX12_in 1 = .ok (.iload_n 1, 1) := by decide +kernel
theorem dX12_in_2 : decode cX12_in 2 = .ok (.if_icmp .lt 12, 3) := by decide +kernel
theorem dX12_in_5 : decode cX12_in 5 = .ok (.iload_n 0, 1) := by decide +kernel
theorem dX12_in_6 : decode cX12_in 6 = .ok (.iload_n 2, 1) := by decide +kernel
theorem dX12_in_7 : decode cX12_in 7 = .ok (.if_icmp .gt 7, 3) := by decide +kernel
theorem dX12_in_10 : decode cX12_in 10 = .ok (.iconst 1, 1) := by decide +kernel
theorem dX12_in_11 : decode cX12_in 11 = .ok (.goto 4, 3) := by decide +kernel
theorem dX12_in_14 : decode cX12_in 14 = .ok (.iconst 0, 1) := by decide +kernel
theorem dX12_in_15 : decode cX12_in 15 = .ok (.ireturn, 1) := by decide +kernel
theorem dX12_has_0 : decode cX12_has 0 = .ok (.iload_n 0, 1) := by decide +kernel
theorem dX12_has_1 : decode cX12_has 1 = .ok (.iload_n 1, 1) := by decide +kernel
theorem dX12_has_2 : decode cX12_has 2 = .ok (.ishr, 1) := by decide +kernel
theorem dX12_has_3 : decode cX12_has 3 = .ok (.iconst 1, 1) := by decide +kernel
theorem dX12_has_4 : decode cX12_has 4 = .ok (.iand, 1) := by decide +kernel
theorem dX12_has_5 : decode cX12_has 5 = .ok (.iconst 1, 1) := by decide +kernel
theorem dX12_has_6 : decode cX12_has 6 = .ok (.if_icmp .ne 7, 3) := by decide +kernel
theorem dX12_has_9 : decode cX12_has 9 = .ok (.iconst 1, 1) := by decide +kernel
theorem dX12_has_10 : decode cX12_has 10 = .ok (.goto 4, 3) := by decide +kernel
theorem dX12_has_13 : decode cX12_has 13 = .ok (.iconst 0, 1) := by decide +kernel
theorem dX12_has_14 : decode cX12_has 14 = .ok (.ireturn, 1) := by decide +kernel
theorem dX12_lost_0 : decode cX12_lost 0 = .ok (.aload_n 0, 1) := by decide +kernel
theorem dX12_lost_1 : decode cX12_lost 1 = .ok (.iconst 1, 1) := by decide +kernel
theorem dX12_lost_2 : decode cX12_lost 2 = .ok (.putfield 133, 3) := by decide +kernel
theorem dX12_lost_5 : decode cX12_lost 5 = .ok (.iconst 0, 1) := by decide +kernel
theorem dX12_lost_6 : decode cX12_lost 6 = .ok (.ireturn, 1) := by decide +kernel
theorem dX12_tell_0 : decode cX12_tell 0 = .ok (.aload_n 0, 1) := by decide +kernel
theorem dX12_tell_1 : decode cX12_tell 1 = .ok (.getfield 45, 3) := by decide +kernel
theorem dX12_tell_4 : decode cX12_tell 4 = .ok (.aload_n 0, 1) := by decide +kernel
theorem dX12_tell_5 : decode cX12_tell 5 = .ok (.getfield 136, 3) := by decide +kernel
theorem dX12_tell_8 : decode cX12_tell 8 = .ok (.iload_n 1, 1) := by decide +kernel
theorem dX12_tell_9 : decode cX12_tell 9 = .ok (.iastore, 1) := by decide +kernel
theorem dX12_tell_10 : decode cX12_tell 10 = .ok (.aload_n 0, 1) := by decide +kernel
theorem dX12_tell_11 : decode cX12_tell 11 = .ok (.dup, 1) := by decide +kernel
theorem dX12_tell_12 : decode cX12_tell 12 = .ok (.getfield 136, 3) := by decide +kernel
theorem dX12_tell_15 : decode cX12_tell 15 = .ok (.iconst 1, 1) := by decide +kernel
theorem dX12_tell_16 : decode cX12_tell 16 = .ok (.iadd, 1) := by decide +kernel
theorem dX12_tell_17 : decode cX12_tell 17 = .ok (.putfield 136, 3) := by decide +kernel
theorem dX12_tell_20 : decode cX12_tell 20 = .ok (.return_, 1) := by decide +kernel
theorem dX12_isLoad_0 : decode cX12_isLoad 0 = .ok (.iload_n 1, 1) := by decide +kernel
theorem dX12_isLoad_1 : decode cX12_isLoad 1 = .ok (.iconst 0, 1) := by decide +kernel
theorem dX12_isLoad_2 : decode cX12_isLoad 2 = .ok (.aload_n 0, 1) := by decide +kernel
theorem dX12_isLoad_3 : decode cX12_isLoad 3 = .ok (.getfield 139, 3) := by decide +kernel
theorem dX12_isLoad_6 : decode cX12_isLoad 6 = .ok (.iconst 1, 1) := by decide +kernel
theorem dX12_isLoad_7 : decode cX12_isLoad 7 = .ok (.isub, 1) := by decide +kernel
theorem dX12_isLoad_8 : decode cX12_isLoad 8 = .ok (.invokestatic 142, 3) := by decide +kernel
theorem dX12_isLoad_11 : decode cX12_isLoad 11 = .ok (.ireturn, 1) := by decide +kernel
theorem dX12_isOf_0 : decode cX12_isOf 0 = .ok (.aload_n 0, 1) := by decide +kernel
theorem dX12_isOf_1 : decode cX12_isOf 1 = .ok (.iload_n 1, 1) := by decide +kernel
theorem dX12_isOf_2 : decode cX12_isOf 2 = .ok (.invokevirtual 146, 3) := by decide +kernel
theorem dX12_isOf_5 : decode cX12_isOf 5 = .ok (.ifCond .eq 17, 3) := by decide +kernel
theorem dX12_isOf_8 : decode cX12_isOf 8 = .ok (.aload_n 0, 1) := by decide +kernel
theorem dX12_isOf_9 : decode cX12_isOf 9 = .ok (.getfield 9, 3) := by decide +kernel
theorem dX12_isOf_12 : decode cX12_isOf 12 = .ok (.iload_n 1, 1) := by decide +kernel
theorem dX12_isOf_13 : decode cX12_isOf 13 = .ok (.iaload, 1) := by decide +kernel
theorem dX12_isOf_14 : decode cX12_isOf 14 = .ok (.iload_n 2, 1) := by decide +kernel
theorem dX12_isOf_15 : decode cX12_isOf 15 = .ok (.if_icmp .ne 7, 3) := by decide +kernel
theorem dX12_isOf_18 : decode cX12_isOf 18 = .ok (.iconst 1, 1) := by decide +kernel
theorem dX12_isOf_19 : decode cX12_isOf 19 = .ok (.goto 4, 3) := by decide +kernel
theorem dX12_isOf_22 : decode cX12_isOf 22 = .ok (.iconst 0, 1) := by decide +kernel
theorem dX12_isOf_23 : decode cX12_isOf 23 = .ok (.ireturn, 1) := by decide +kernel
theorem dX12_isDepth_0 : decode cX12_isDepth 0 = .ok (.iload_n 0, 1) := by decide +kernel
theorem dX12_isDepth_1 : decode cX12_isDepth 1 = .ok (.iconst 0, 1) := by decide +kernel
theorem dX12_isDepth_2 : decode cX12_isDepth 2 = .ok (.sipush 600, 3) := by decide +kernel
theorem dX12_isDepth_5 : decode cX12_isDepth 5 = .ok (.invokestatic 142, 3) := by decide +kernel
theorem dX12_isDepth_8 : decode cX12_isDepth 8 = .ok (.ireturn, 1) := by decide +kernel
theorem dX12_roomOf_0 : decode cX12_roomOf 0 = .ok (.aload_n 0, 1) := by decide +kernel
theorem dX12_roomOf_1 : decode cX12_roomOf 1 = .ok (.getfield 19, 3) := by decide +kernel
theorem dX12_roomOf_4 : decode cX12_roomOf 4 = .ok (.iload_n 1, 1) := by decide +kernel
theorem dX12_roomOf_5 : decode cX12_roomOf 5 = .ok (.iaload, 1) := by decide +kernel
theorem dX12_roomOf_6 : decode cX12_roomOf 6 = .ok (.aload_n 0, 1) := by decide +kernel
theorem dX12_roomOf_7 : decode cX12_roomOf 7 = .ok (.getfield 22, 3) := by decide +kernel
theorem dX12_roomOf_10 : decode cX12_roomOf 10 = .ok (.iload_n 1, 1) := by decide +kernel
theorem dX12_roomOf_11 : decode cX12_roomOf 11 = .ok (.iaload, 1) := by decide +kernel
theorem dX12_roomOf_12 : decode cX12_roomOf 12 = .ok (.isub, 1) := by decide +kernel
theorem dX12_roomOf_13 : decode cX12_roomOf 13 = .ok (.ireturn, 1) := by decide +kernel
theorem dX12_push_0 : decode cX12_push 0 = .ok (.iconst 0, 1) := by decide +kernel
theorem dX12_push_1 : decode cX12_push 1 = .ok (.istore_n 1, 1) := by decide +kernel
theorem dX12_push_2 : decode cX12_push 2 = .ok (.iload_n 1, 1) := by decide +kernel
theorem dX12_push_3 : decode cX12_push 3 = .ok (.bipush 15, 2) := by decide +kernel
theorem dX12_push_5 : decode cX12_push 5 = .ok (.if_icmp .ge 29, 3) := by decide +kernel
theorem dX12_push_8 : decode cX12_push 8 = .ok (.aload_n 0, 1) := by decide +kernel
theorem dX12_push_9 : decode cX12_push 9 = .ok (.getfield 48, 3) := by decide +kernel
theorem dX12_push_12 : decode cX12_push 12 = .ok (.bipush 15, 2) := by decide +kernel
theorem dX12_push_14 : decode cX12_push 14 = .ok (.aload_n 0, 1) := by decide +kernel
theorem dX12_push_15 : decode cX12_push 15 = .ok (.getfield 150, 3) := by decide +kernel
theorem dX12_push_18 : decode cX12_push 18 = .ok (.imul, 1) := by decide +kernel
theorem dX12_push_19 : decode cX12_push 19 = .ok (.iload_n 1, 1) := by decide +kernel
theorem dX12_push_20 : decode cX12_push 20 = .ok (.iadd, 1) := by decide +kernel
theorem dX12_push_21 : decode cX12_push 21 = .ok (.aload_n 0, 1) := by decide +kernel
theorem dX12_push_22 : decode cX12_push 22 = .ok (.getfield 22, 3) := by decide +kernel
theorem dX12_push_25 : decode cX12_push 25 = .ok (.iload_n 1, 1) := by decide +kernel
theorem dX12_push_26 : decode cX12_push 26 = .ok (.iaload, 1) := by decide +kernel
theorem dX12_push_27 : decode cX12_push 27 = .ok (.iastore, 1) := by decide +kernel
theorem dX12_push_28 : decode cX12_push 28 = .ok (.iinc 1 1, 3) := by decide +kernel
theorem dX12_push_31 : decode cX12_push 31 = .ok (.goto (-29), 3) := by decide +kernel
theorem dX12_push_34 : decode cX12_push 34 = .ok (.aload_n 0, 1) := by decide +kernel
theorem dX12_push_35 : decode cX12_push 35 = .ok (.dup, 1) := by decide +kernel
theorem dX12_push_36 : decode cX12_push 36 = .ok (.getfield 150, 3) := by decide +kernel
theorem dX12_push_39 : decode cX12_push 39 = .ok (.iconst 1, 1) := by decide +kernel
theorem dX12_push_40 : decode cX12_push 40 = .ok (.iadd, 1) := by decide +kernel
theorem dX12_push_41 : decode cX12_push 41 = .ok (.putfield 150, 3) := by decide +kernel
theorem dX12_push_44 : decode cX12_push 44 = .ok (.return_, 1) := by decide +kernel
theorem dX12_pop_0 : decode cX12_pop 0 = .ok (.aload_n 0, 1) := by decide +kernel
theorem dX12_pop_1 : decode cX12_pop 1 = .ok (.dup, 1) := by decide +kernel
theorem dX12_pop_2 : decode cX12_pop 2 = .ok (.getfield 150, 3) := by decide +kernel
theorem dX12_pop_5 : decode cX12_pop 5 = .ok (.iconst 1, 1) := by decide +kernel
theorem dX12_pop_6 : decode cX12_pop 6 = .ok (.isub, 1) := by decide +kernel
theorem dX12_pop_7 : decode cX12_pop 7 = .ok (.putfield 150, 3) := by decide +kernel
theorem dX12_pop_10 : decode cX12_pop 10 = .ok (.iconst 0, 1) := by decide +kernel
theorem dX12_pop_11 : decode cX12_pop 11 = .ok (.istore_n 1, 1) := by decide +kernel
theorem dX12_pop_12 : decode cX12_pop 12 = .ok (.iload_n 1, 1) := by decide +kernel
theorem dX12_pop_13 : decode cX12_pop 13 = .ok (.bipush 15, 2) := by decide +kernel
theorem dX12_pop_15 : decode cX12_pop 15 = .ok (.if_icmp .ge 29, 3) := by decide +kernel
theorem dX12_pop_18 : decode cX12_pop 18 = .ok (.aload_n 0, 1) := by decide +kernel
theorem dX12_pop_19 : decode cX12_pop 19 = .ok (.getfield 22, 3) := by decide +kernel
theorem dX12_pop_22 : decode cX12_pop 22 = .ok (.iload_n 1, 1) := by decide +kernel
theorem dX12_pop_23 : decode cX12_pop 23 = .ok (.aload_n 0, 1) := by decide +kernel
theorem dX12_pop_24 : decode cX12_pop 24 = .ok (.getfield 48, 3) := by decide +kernel
theorem dX12_pop_27 : decode cX12_pop 27 = .ok (.bipush 15, 2) := by decide +kernel
theorem dX12_pop_29 : decode cX12_pop 29 = .ok (.aload_n 0, 1) := by decide +kernel
theorem dX12_pop_30 : decode cX12_pop 30 = .ok (.getfield 150, 3) := by decide +kernel
theorem dX12_pop_33 : decode cX12_pop 33 = .ok (.imul, 1) := by decide +kernel
theorem dX12_pop_34 : decode cX12_pop 34 = .ok (.iload_n 1, 1) := by decide +kernel
theorem dX12_pop_35 : decode cX12_pop 35 = .ok (.iadd, 1) := by decide +kernel
theorem dX12_pop_36 : decode cX12_pop 36 = .ok (.iaload, 1) := by decide +kernel
theorem dX12_pop_37 : decode cX12_pop 37 = .ok (.iastore, 1) := by decide +kernel
theorem dX12_pop_38 : decode cX12_pop 38 = .ok (.iinc 1 1, 3) := by decide +kernel
theorem dX12_pop_41 : decode cX12_pop 41 = .ok (.goto (-29), 3) := by decide +kernel
theorem dX12_pop_44 : decode cX12_pop 44 = .ok (.return_, 1) := by decide +kernel
theorem dX12_load_0 : decode cX12_load 0 = .ok (.aload_n 0, 1) := by decide +kernel
theorem dX12_load_1 : decode cX12_load 1 = .ok (.iconst 0, 1) := by decide +kernel
theorem dX12_load_2 : decode cX12_load 2 = .ok (.putfield 133, 3) := by decide +kernel
theorem dX12_load_5 : decode cX12_load 5 = .ok (.iload_n 1, 1) := by decide +kernel
theorem dX12_load_6 : decode cX12_load 6 = .ok (.iconst 0, 1) := by decide +kernel
theorem dX12_load_7 : decode cX12_load 7 = .ok (.iconst 3, 1) := by decide +kernel
theorem dX12_load_8 : decode cX12_load 8 = .ok (.invokestatic 142, 3) := by decide +kernel
theorem dX12_load_11 : decode cX12_load 11 = .ok (.ifCond .eq 57, 3) := by decide +kernel
theorem dX12_load_14 : decode cX12_load 14 = .ok (.iload_n 2, 1) := by decide +kernel
theorem dX12_load_15 : decode cX12_load 15 = .ok (.bipush (-99), 2) := by decide +kernel
theorem dX12_load_17 : decode cX12_load 17 = .ok (.bipush 99, 2) := by decide +kernel
theorem dX12_load_19 : decode cX12_load 19 = .ok (.invokestatic 142, 3) := by decide +kernel
theorem dX12_load_22 : decode cX12_load 22 = .ok (.ifCond .eq 46, 3) := by decide +kernel
theorem dX12_load_25 : decode cX12_load 25 = .ok (.iload_n 3, 1) := by decide +kernel
theorem dX12_load_26 : decode cX12_load 26 = .ok (.bipush (-9), 2) := by decide +kernel
theorem dX12_load_28 : decode cX12_load 28 = .ok (.bipush 9, 2) := by decide +kernel
theorem dX12_load_30 : decode cX12_load 30 = .ok (.invokestatic 142, 3) := by decide +kernel
theorem dX12_load_33 : decode cX12_load 33 = .ok (.ifCond .eq 35, 3) := by decide +kernel
theorem dX12_load_36 : decode cX12_load 36 = .ok (.iload 4, 2) := by decide +kernel
theorem dX12_load_38 : decode cX12_load 38 = .ok (.iconst 0, 1) := by decide +kernel
theorem dX12_load_39 : decode cX12_load 39 = .ok (.sipush 999, 3) := by decide +kernel
theorem dX12_load_42 : decode cX12_load 42 = .ok (.invokestatic 142, 3) := by decide +kernel
theorem dX12_load_45 : decode cX12_load 45 = .ok (.ifCond .eq 23, 3) := by decide +kernel
theorem dX12_load_48 : decode cX12_load 48 = .ok (.iload 5, 2) := by decide +kernel
theorem dX12_load_50 : decode cX12_load 50 = .ok (.iconst 0, 1) := by decide +kernel
theorem dX12_load_51 : decode cX12_load 51 = .ok (.iload 4, 2) := by decide +kernel
theorem dX12_load_53 : decode cX12_load 53 = .ok (.invokestatic 142, 3) := by decide +kernel
theorem dX12_load_56 : decode cX12_load 56 = .ok (.ifCond .eq 12, 3) := by decide +kernel
theorem dX12_load_59 : decode cX12_load 59 = .ok (.aload_n 0, 1) := by decide +kernel
theorem dX12_load_60 : decode cX12_load 60 = .ok (.getfield 139, 3) := by decide +kernel
theorem dX12_load_63 : decode cX12_load 63 = .ok (.bipush 15, 2) := by decide +kernel
theorem dX12_load_65 : decode cX12_load 65 = .ok (.if_icmp .ne 5, 3) := by decide +kernel
theorem dX12_load_68 : decode cX12_load 68 = .ok (.iconst (-1), 1) := by decide +kernel
theorem dX12_load_69 : decode cX12_load 69 = .ok (.ireturn, 1) := by decide +kernel
theorem dX12_load_70 : decode cX12_load 70 = .ok (.aload_n 0, 1) := by decide +kernel
theorem dX12_load_71 : decode cX12_load 71 = .ok (.getfield 9, 3) := by decide +kernel
theorem dX12_load_74 : decode cX12_load 74 = .ok (.aload_n 0, 1) := by decide +kernel
theorem dX12_load_75 : decode cX12_load 75 = .ok (.getfield 139, 3) := by decide +kernel
theorem dX12_load_78 : decode cX12_load 78 = .ok (.iload_n 1, 1) := by decide +kernel
theorem dX12_load_79 : decode cX12_load 79 = .ok (.iastore, 1) := by decide +kernel
theorem dX12_load_80 : decode cX12_load 80 = .ok (.aload_n 0, 1) := by decide +kernel
theorem dX12_load_81 : decode cX12_load 81 = .ok (.getfield 13, 3) := by decide +kernel
theorem dX12_load_84 : decode cX12_load 84 = .ok (.aload_n 0, 1) := by decide +kernel
theorem dX12_load_85 : decode cX12_load 85 = .ok (.getfield 139, 3) := by decide +kernel
theorem dX12_load_88 : decode cX12_load 88 = .ok (.iload_n 2, 1) := by decide +kernel
theorem dX12_load_89 : decode cX12_load 89 = .ok (.iastore, 1) := by decide +kernel
theorem dX12_load_90 : decode cX12_load 90 = .ok (.aload_n 0, 1) := by decide +kernel
theorem dX12_load_91 : decode cX12_load 91 = .ok (.getfield 16, 3) := by decide +kernel
theorem dX12_load_94 : decode cX12_load 94 = .ok (.aload_n 0, 1) := by decide +kernel
theorem dX12_load_95 : decode cX12_load 95 = .ok (.getfield 139, 3) := by decide +kernel
theorem dX12_load_98 : decode cX12_load 98 = .ok (.iload_n 3, 1) := by decide +kernel
theorem dX12_load_99 : decode cX12_load 99 = .ok (.iastore, 1) := by decide +kernel
theorem dX12_load_100 : decode cX12_load 100 = .ok (.aload_n 0, 1) := by decide +kernel
theorem dX12_load_101 : decode cX12_load 101 = .ok (.getfield 19, 3) := by decide +kernel
theorem dX12_load_104 : decode cX12_load 104 = .ok (.aload_n 0, 1) := by decide +kernel
theorem dX12_load_105 : decode cX12_load 105 = .ok (.getfield 139, 3) := by decide +kernel
theorem dX12_load_108 : decode cX12_load 108 = .ok (.iload 4, 2) := by decide +kernel
theorem dX12_load_110 : decode cX12_load 110 = .ok (.iastore, 1) := by decide +kernel
theorem dX12_load_111 : decode cX12_load 111 = .ok (.aload_n 0, 1) := by decide +kernel
theorem dX12_load_112 : decode cX12_load 112 = .ok (.getfield 22, 3) := by decide +kernel
theorem dX12_load_115 : decode cX12_load 115 = .ok (.aload_n 0, 1) := by decide +kernel
theorem dX12_load_116 : decode cX12_load 116 = .ok (.getfield 139, 3) := by decide +kernel
theorem dX12_load_119 : decode cX12_load 119 = .ok (.iload 5, 2) := by decide +kernel
theorem dX12_load_121 : decode cX12_load 121 = .ok (.iastore, 1) := by decide +kernel
theorem dX12_load_122 : decode cX12_load 122 = .ok (.aload_n 0, 1) := by decide +kernel
theorem dX12_load_123 : decode cX12_load 123 = .ok (.getfield 112, 3) := by decide +kernel
theorem dX12_load_126 : decode cX12_load 126 = .ok (.aload_n 0, 1) := by decide +kernel
theorem dX12_load_127 : decode cX12_load 127 = .ok (.getfield 139, 3) := by decide +kernel
theorem dX12_load_130 : decode cX12_load 130 = .ok (.iconst (-1), 1) := by decide +kernel
theorem dX12_load_131 : decode cX12_load 131 = .ok (.iastore, 1) := by decide +kernel
theorem dX12_load_132 : decode cX12_load 132 = .ok (.aload_n 0, 1) := by decide +kernel
theorem dX12_load_133 : decode cX12_load 133 = .ok (.dup, 1) := by decide +kernel
theorem dX12_load_134 : decode cX12_load 134 = .ok (.getfield 139, 3) := by decide +kernel
theorem dX12_load_137 : decode cX12_load 137 = .ok (.iconst 1, 1) := by decide +kernel
theorem dX12_load_138 : decode cX12_load 138 = .ok (.iadd, 1) := by decide +kernel
theorem dX12_load_139 : decode cX12_load 139 = .ok (.putfield 139, 3) := by decide +kernel
theorem dX12_load_142 : decode cX12_load 142 = .ok (.aload_n 0, 1) := by decide +kernel
theorem dX12_load_143 : decode cX12_load 143 = .ok (.getfield 139, 3) := by decide +kernel
theorem dX12_load_146 : decode cX12_load 146 = .ok (.iconst 1, 1) := by decide +kernel
theorem dX12_load_147 : decode cX12_load 147 = .ok (.isub, 1) := by decide +kernel
theorem dX12_load_148 : decode cX12_load 148 = .ok (.ireturn, 1) := by decide +kernel
theorem dX12_fill_0 : decode cX12_fill 0 = .ok (.aload_n 0, 1) := by decide +kernel
theorem dX12_fill_1 : decode cX12_fill 1 = .ok (.iconst 0, 1) := by decide +kernel
theorem dX12_fill_2 : decode cX12_fill 2 = .ok (.putfield 133, 3) := by decide +kernel
theorem dX12_fill_5 : decode cX12_fill 5 = .ok (.aload_n 0, 1) := by decide +kernel
theorem dX12_fill_6 : decode cX12_fill 6 = .ok (.iload_n 1, 1) := by decide +kernel
theorem dX12_fill_7 : decode cX12_fill 7 = .ok (.invokevirtual 146, 3) := by decide +kernel
theorem dX12_fill_10 : decode cX12_fill 10 = .ok (.ifCond .eq 17, 3) := by decide +kernel
theorem dX12_fill_13 : decode cX12_fill 13 = .ok (.iload_n 2, 1) := by decide +kernel
theorem dX12_fill_14 : decode cX12_fill 14 = .ok (.iconst 0, 1) := by decide +kernel
theorem dX12_fill_15 : decode cX12_fill 15 = .ok (.aload_n 0, 1) := by decide +kernel
theorem dX12_fill_16 : decode cX12_fill 16 = .ok (.getfield 19, 3) := by decide +kernel
theorem dX12_fill_19 : decode cX12_fill 19 = .ok (.iload_n 1, 1) := by decide +kernel
theorem dX12_fill_20 : decode cX12_fill 20 = .ok (.iaload, 1) := by decide +kernel
theorem dX12_fill_21 : decode cX12_fill 21 = .ok (.invokestatic 142, 3) := by decide +kernel
theorem dX12_fill_24 : decode cX12_fill 24 = .ok (.ifCond .ne 5, 3) := by decide +kernel
theorem dX12_fill_27 : decode cX12_fill 27 = .ok (.iconst (-1), 1) := by decide +kernel
theorem dX12_fill_28 : decode cX12_fill 28 = .ok (.ireturn, 1) := by decide +kernel
theorem dX12_fill_29 : decode cX12_fill 29 = .ok (.aload_n 0, 1) := by decide +kernel
theorem dX12_fill_30 : decode cX12_fill 30 = .ok (.getfield 22, 3) := by decide +kernel
theorem dX12_fill_33 : decode cX12_fill 33 = .ok (.iload_n 1, 1) := by decide +kernel
theorem dX12_fill_34 : decode cX12_fill 34 = .ok (.iaload, 1) := by decide +kernel
theorem dX12_fill_35 : decode cX12_fill 35 = .ok (.istore_n 3, 1) := by decide +kernel
theorem dX12_fill_36 : decode cX12_fill 36 = .ok (.aload_n 0, 1) := by decide +kernel
theorem dX12_fill_37 : decode cX12_fill 37 = .ok (.getfield 22, 3) := by decide +kernel
theorem dX12_fill_40 : decode cX12_fill 40 = .ok (.iload_n 1, 1) := by decide +kernel
theorem dX12_fill_41 : decode cX12_fill 41 = .ok (.iload_n 2, 1) := by decide +kernel
theorem dX12_fill_42 : decode cX12_fill 42 = .ok (.iastore, 1) := by decide +kernel
theorem dX12_fill_43 : decode cX12_fill 43 = .ok (.iload_n 3, 1) := by decide +kernel
theorem dX12_fill_44 : decode cX12_fill 44 = .ok (.ireturn, 1) := by decide +kernel
theorem dX12_sheet_0 : decode cX12_sheet 0 = .ok (.aload_n 0, 1) := by decide +kernel
theorem dX12_sheet_1 : decode cX12_sheet 1 = .ok (.iconst 0, 1) := by decide +kernel
theorem dX12_sheet_2 : decode cX12_sheet 2 = .ok (.putfield 133, 3) := by decide +kernel
theorem dX12_sheet_5 : decode cX12_sheet 5 = .ok (.iload_n 1, 1) := by decide +kernel
theorem dX12_sheet_6 : decode cX12_sheet 6 = .ok (.iconst 0, 1) := by decide +kernel
theorem dX12_sheet_7 : decode cX12_sheet 7 = .ok (.iconst 3, 1) := by decide +kernel
theorem dX12_sheet_8 : decode cX12_sheet 8 = .ok (.invokestatic 142, 3) := by decide +kernel
theorem dX12_sheet_11 : decode cX12_sheet 11 = .ok (.ifCond .eq 9, 3) := by decide +kernel
theorem dX12_sheet_14 : decode cX12_sheet 14 = .ok (.iload_n 2, 1) := by decide +kernel
theorem dX12_sheet_15 : decode cX12_sheet 15 = .ok (.bipush 15, 2) := by decide +kernel
theorem dX12_sheet_17 : decode cX12_sheet 17 = .ok (.if_icmp .le 5, 3) := by decide +kernel
theorem dX12_sheet_20 : decode cX12_sheet 20 = .ok (.iconst (-1), 1) := by decide +kernel
theorem dX12_sheet_21 : decode cX12_sheet 21 = .ok (.ireturn, 1) := by decide +kernel
theorem dX12_sheet_22 : decode cX12_sheet 22 = .ok (.iload_n 1, 1) := by decide +kernel
theorem dX12_sheet_23 : decode cX12_sheet 23 = .ok (.iconst 3, 1) := by decide +kernel
theorem dX12_sheet_24 : decode cX12_sheet 24 = .ok (.if_icmp .ne 42, 3) := by decide +kernel
theorem dX12_sheet_27 : decode cX12_sheet 27 = .ok (.iconst 0, 1) := by decide +kernel
theorem dX12_sheet_28 : decode cX12_sheet 28 = .ok (.istore 5, 2) := by decide +kernel
theorem dX12_sheet_30 : decode cX12_sheet 30 = .ok (.iload 5, 2) := by decide +kernel
theorem dX12_sheet_32 : decode cX12_sheet 32 = .ok (.aload_n 0, 1) := by decide +kernel
theorem dX12_sheet_33 : decode cX12_sheet 33 = .ok (.getfield 139, 3) := by decide +kernel
theorem dX12_sheet_36 : decode cX12_sheet 36 = .ok (.if_icmp .ge 27, 3) := by decide +kernel
theorem dX12_sheet_39 : decode cX12_sheet 39 = .ok (.aload_n 0, 1) := by decide +kernel
theorem dX12_sheet_40 : decode cX12_sheet 40 = .ok (.getfield 9, 3) := by decide +kernel
theorem dX12_sheet_43 : decode cX12_sheet 43 = .ok (.iload 5, 2) := by decide +kernel
theorem dX12_sheet_45 : decode cX12_sheet 45 = .ok (.iaload, 1) := by decide +kernel
theorem dX12_sheet_46 : decode cX12_sheet 46 = .ok (.ifCond .ne 11, 3) := by decide +kernel
theorem dX12_sheet_49 : decode cX12_sheet 49 = .ok (.aload_n 0, 1) := by decide +kernel
theorem dX12_sheet_50 : decode cX12_sheet 50 = .ok (.getfield 22, 3) := by decide +kernel
theorem dX12_sheet_53 : decode cX12_sheet 53 = .ok (.iload 5, 2) := by decide +kernel
theorem dX12_sheet_55 : decode cX12_sheet 55 = .ok (.iconst 0, 1) := by decide +kernel
theorem dX12_sheet_56 : decode cX12_sheet 56 = .ok (.iastore, 1) := by decide +kernel
theorem dX12_sheet_57 : decode cX12_sheet 57 = .ok (.iinc 5 1, 3) := by decide +kernel
theorem dX12_sheet_60 : decode cX12_sheet 60 = .ok (.goto (-30), 3) := by decide +kernel
theorem dX12_sheet_63 : decode cX12_sheet 63 = .ok (.bipush (-3), 2) := by decide +kernel
theorem dX12_sheet_65 : decode cX12_sheet 65 = .ok (.ireturn, 1) := by decide +kernel
theorem dX12_sheet_66 : decode cX12_sheet 66 = .ok (.iload_n 2, 1) := by decide +kernel
theorem dX12_sheet_67 : decode cX12_sheet 67 = .ok (.ifCond .ge 6, 3) := by decide +kernel
theorem dX12_sheet_70 : decode cX12_sheet 70 = .ok (.bipush (-2), 2) := by decide +kernel
theorem dX12_sheet_72 : decode cX12_sheet 72 = .ok (.ireturn, 1) := by decide +kernel
theorem dX12_sheet_73 : decode cX12_sheet 73 = .ok (.iconst 0, 1) := by decide +kernel
theorem dX12_sheet_74 : decode cX12_sheet 74 = .ok (.istore 5, 2) := by decide +kernel
theorem dX12_sheet_76 : decode cX12_sheet 76 = .ok (.iload_n 3, 1) := by decide +kernel
theorem dX12_sheet_77 : decode cX12_sheet 77 = .ok (.istore 6, 2) := by decide +kernel
theorem dX12_sheet_79 : decode cX12_sheet 79 = .ok (.iconst 0, 1) := by decide +kernel
theorem dX12_sheet_80 : decode cX12_sheet 80 = .ok (.istore 7, 2) := by decide +kernel
theorem dX12_sheet_82 : decode cX12_sheet 82 = .ok (.iload 7, 2) := by decide +kernel
theorem dX12_sheet_84 : decode cX12_sheet 84 = .ok (.aload_n 0, 1) := by decide +kernel
theorem dX12_sheet_85 : decode cX12_sheet 85 = .ok (.getfield 139, 3) := by decide +kernel
theorem dX12_sheet_88 : decode cX12_sheet 88 = .ok (.if_icmp .ge 73, 3) := by decide +kernel
theorem dX12_sheet_91 : decode cX12_sheet 91 = .ok (.iload 7, 2) := by decide +kernel
theorem dX12_sheet_93 : decode cX12_sheet 93 = .ok (.iload_n 2, 1) := by decide +kernel
theorem dX12_sheet_94 : decode cX12_sheet 94 = .ok (.if_icmp .ge 67, 3) := by decide +kernel
theorem dX12_sheet_97 : decode cX12_sheet 97 = .ok (.iload_n 1, 1) := by decide +kernel
theorem dX12_sheet_98 : decode cX12_sheet 98 = .ok (.ifCond .ne 9, 3) := by decide +kernel
theorem dX12_sheet_101 : decode cX12_sheet 101 = .ok (.iload 6, 2) := by decide +kernel
theorem dX12_sheet_103 : decode cX12_sheet 103 = .ok (.i2b, 1) := by decide +kernel
theorem dX12_sheet_104 : decode cX12_sheet 104 = .ok (.goto 16, 3) := by decide +kernel
theorem dX12_sheet_107 : decode cX12_sheet 107 = .ok (.iload_n 1, 1) := by decide +kernel
theorem dX12_sheet_108 : decode cX12_sheet 108 = .ok (.iconst 1, 1) := by decide +kernel
theorem dX12_sheet_109 : decode cX12_sheet 109 = .ok (.if_icmp .ne 9, 3) := by decide +kernel
theorem dX12_sheet_112 : decode cX12_sheet 112 = .ok (.iload 6, 2) := by decide +kernel
theorem dX12_sheet_114 : decode cX12_sheet 114 = .ok (.i2s, 1) := by decide +kernel
theorem dX12_sheet_115 : decode cX12_sheet 115 = .ok (.goto 5, 3) := by decide +kernel
theorem dX12_sheet_118 : decode cX12_sheet 118 = .ok (.iload 6, 2) := by decide +kernel
theorem dX12_sheet_120 : decode cX12_sheet 120 = .ok (.istore 8, 2) := by decide +kernel
theorem dX12_sheet_122 : decode cX12_sheet 122 = .ok (.aload_n 0, 1) := by decide +kernel
theorem dX12_sheet_123 : decode cX12_sheet 123 = .ok (.getfield 22, 3) := by decide +kernel
theorem dX12_sheet_126 : decode cX12_sheet 126 = .ok (.iload 7, 2) := by decide +kernel
theorem dX12_sheet_128 : decode cX12_sheet 128 = .ok (.iconst 0, 1) := by decide +kernel
theorem dX12_sheet_129 : decode cX12_sheet 129 = .ok (.aload_n 0, 1) := by decide +kernel
theorem dX12_sheet_130 : decode cX12_sheet 130 = .ok (.getfield 19, 3) := by decide +kernel
theorem dX12_sheet_133 : decode cX12_sheet 133 = .ok (.iload 7, 2) := by decide +kernel
theorem dX12_sheet_135 : decode cX12_sheet 135 = .ok (.iaload, 1) := by decide +kernel
theorem dX12_sheet_136 : decode cX12_sheet 136 = .ok (.iload 8, 2) := by decide +kernel
theorem dX12_sheet_138 : decode cX12_sheet 138 = .ok (.invokestatic 153, 3) := by decide +kernel
theorem dX12_sheet_141 : decode cX12_sheet 141 = .ok (.invokestatic 159, 3) := by decide +kernel
theorem dX12_sheet_144 : decode cX12_sheet 144 = .ok (.iastore, 1) := by decide +kernel
theorem dX12_sheet_145 : decode cX12_sheet 145 = .ok (.iload 6, 2) := by decide +kernel
theorem dX12_sheet_147 : decode cX12_sheet 147 = .ok (.iload 4, 2) := by decide +kernel
theorem dX12_sheet_149 : decode cX12_sheet 149 = .ok (.iadd, 1) := by decide +kernel
theorem dX12_sheet_150 : decode cX12_sheet 150 = .ok (.istore 6, 2) := by decide +kernel
theorem dX12_sheet_152 : decode cX12_sheet 152 = .ok (.iinc 5 1, 3) := by decide +kernel
theorem dX12_sheet_155 : decode cX12_sheet 155 = .ok (.iinc 7 1, 3) := by decide +kernel
theorem dX12_sheet_158 : decode cX12_sheet 158 = .ok (.goto (-76), 3) := by decide +kernel
theorem dX12_sheet_161 : decode cX12_sheet 161 = .ok (.iload 5, 2) := by decide +kernel
theorem dX12_sheet_163 : decode cX12_sheet 163 = .ok (.ireturn, 1) := by decide +kernel
theorem dX12_base_0 : decode cX12_base 0 = .ok (.aload_n 0, 1) := by decide +kernel
theorem dX12_base_1 : decode cX12_base 1 = .ok (.iconst 0, 1) := by decide +kernel
theorem dX12_base_2 : decode cX12_base 2 = .ok (.putfield 133, 3) := by decide +kernel
theorem dX12_base_5 : decode cX12_base 5 = .ok (.iload_n 1, 1) := by decide +kernel
theorem dX12_base_6 : decode cX12_base 6 = .ok (.iconst 0, 1) := by decide +kernel
theorem dX12_base_7 : decode cX12_base 7 = .ok (.ldc 162, 2) := by decide +kernel
theorem dX12_base_9 : decode cX12_base 9 = .ok (.invokestatic 142, 3) := by decide +kernel
theorem dX12_base_12 : decode cX12_base 12 = .ok (.ifCond .eq 25, 3) := by decide +kernel
theorem dX12_base_15 : decode cX12_base 15 = .ok (.iload_n 2, 1) := by decide +kernel
theorem dX12_base_16 : decode cX12_base 16 = .ok (.ldc 163, 2) := by decide +kernel
theorem dX12_base_18 : decode cX12_base 18 = .ok (.ldc 164, 2) := by decide +kernel
theorem dX12_base_20 : decode cX12_base 20 = .ok (.invokestatic 142, 3) := by decide +kernel
theorem dX12_base_23 : decode cX12_base 23 = .ok (.ifCond .eq 14, 3) := by decide +kernel
theorem dX12_base_26 : decode cX12_base 26 = .ok (.iload_n 3, 1) := by decide +kernel
theorem dX12_base_27 : decode cX12_base 27 = .ok (.ldc 165, 2) := by decide +kernel
theorem dX12_base_29 : decode cX12_base 29 = .ok (.ldc 162, 2) := by decide +kernel
theorem dX12_base_31 : decode cX12_base 31 = .ok (.invokestatic 142, 3) := by decide +kernel
theorem dX12_base_34 : decode cX12_base 34 = .ok (.ifCond .ne 5, 3) := by decide +kernel
theorem dX12_base_37 : decode cX12_base 37 = .ok (.iconst 0, 1) := by decide +kernel
theorem dX12_base_38 : decode cX12_base 38 = .ok (.ireturn, 1) := by decide +kernel
theorem dX12_base_39 : decode cX12_base 39 = .ok (.aload_n 0, 1) := by decide +kernel
theorem dX12_base_40 : decode cX12_base 40 = .ok (.iload_n 1, 1) := by decide +kernel
theorem dX12_base_41 : decode cX12_base 41 = .ok (.putfield 166, 3) := by decide +kernel
theorem dX12_base_44 : decode cX12_base 44 = .ok (.aload_n 0, 1) := by decide +kernel
theorem dX12_base_45 : decode cX12_base 45 = .ok (.iload_n 2, 1) := by decide +kernel
theorem dX12_base_46 : decode cX12_base 46 = .ok (.putfield 169, 3) := by decide +kernel
theorem dX12_base_49 : decode cX12_base 49 = .ok (.aload_n 0, 1) := by decide +kernel
theorem dX12_base_50 : decode cX12_base 50 = .ok (.iload_n 3, 1) := by decide +kernel
theorem dX12_base_51 : decode cX12_base 51 = .ok (.putfield 172, 3) := by decide +kernel
theorem dX12_base_54 : decode cX12_base 54 = .ok (.iconst 1, 1) := by decide +kernel
theorem dX12_base_55 : decode cX12_base 55 = .ok (.ireturn, 1) := by decide +kernel
theorem dX12_hull_0 : decode cX12_hull 0 = .ok (.aload_n 0, 1) := by decide +kernel
theorem dX12_hull_1 : decode cX12_hull 1 = .ok (.iconst 0, 1) := by decide +kernel
theorem dX12_hull_2 : decode cX12_hull 2 = .ok (.putfield 133, 3) := by decide +kernel
theorem dX12_hull_5 : decode cX12_hull 5 = .ok (.iload_n 1, 1) := by decide +kernel
theorem dX12_hull_6 : decode cX12_hull 6 = .ok (.iconst 1, 1) := by decide +kernel
theorem dX12_hull_7 : decode cX12_hull 7 = .ok (.ldc 162, 2) := by decide +kernel
theorem dX12_hull_9 : decode cX12_hull 9 = .ok (.invokestatic 142, 3) := by decide +kernel
theorem dX12_hull_12 : decode cX12_hull 12 = .ok (.ifCond .eq 13, 3) := by decide +kernel
theorem dX12_hull_15 : decode cX12_hull 15 = .ok (.iload_n 2, 1) := by decide +kernel
theorem dX12_hull_16 : decode cX12_hull 16 = .ok (.iconst 0, 1) := by decide +kernel
theorem dX12_hull_17 : decode cX12_hull 17 = .ok (.bipush 99, 2) := by decide +kernel
theorem dX12_hull_19 : decode cX12_hull 19 = .ok (.invokestatic 142, 3) := by decide +kernel
theorem dX12_hull_22 : decode cX12_hull 22 = .ok (.ifCond .ne 5, 3) := by decide +kernel
theorem dX12_hull_25 : decode cX12_hull 25 = .ok (.iconst 0, 1) := by decide +kernel
theorem dX12_hull_26 : decode cX12_hull 26 = .ok (.ireturn, 1) := by decide +kernel
theorem dX12_hull_27 : decode cX12_hull 27 = .ok (.aload_n 0, 1) := by decide +kernel
theorem dX12_hull_28 : decode cX12_hull 28 = .ok (.iload_n 1, 1) := by decide +kernel
theorem dX12_hull_29 : decode cX12_hull 29 = .ok (.putfield 25, 3) := by decide +kernel
theorem dX12_hull_32 : decode cX12_hull 32 = .ok (.aload_n 0, 1) := by decide +kernel
theorem dX12_hull_33 : decode cX12_hull 33 = .ok (.iload_n 2, 1) := by decide +kernel
theorem dX12_hull_34 : decode cX12_hull 34 = .ok (.putfield 175, 3) := by decide +kernel
theorem dX12_hull_37 : decode cX12_hull 37 = .ok (.iconst 1, 1) := by decide +kernel
theorem dX12_hull_38 : decode cX12_hull 38 = .ok (.ireturn, 1) := by decide +kernel
theorem dX12_layer_0 : decode cX12_layer 0 = .ok (.aload_n 0, 1) := by decide +kernel
theorem dX12_layer_1 : decode cX12_layer 1 = .ok (.iconst 0, 1) := by decide +kernel
theorem dX12_layer_2 : decode cX12_layer 2 = .ok (.putfield 133, 3) := by decide +kernel
theorem dX12_layer_5 : decode cX12_layer 5 = .ok (.iload_n 1, 1) := by decide +kernel
theorem dX12_layer_6 : decode cX12_layer 6 = .ok (.invokestatic 178, 3) := by decide +kernel
theorem dX12_layer_9 : decode cX12_layer 9 = .ok (.ifCond .eq 47, 3) := by decide +kernel
theorem dX12_layer_12 : decode cX12_layer 12 = .ok (.iload_n 2, 1) := by decide +kernel
theorem dX12_layer_13 : decode cX12_layer 13 = .ok (.sipush 900, 3) := by decide +kernel
theorem dX12_layer_16 : decode cX12_layer 16 = .ok (.sipush 1100, 3) := by decide +kernel
theorem dX12_layer_19 : decode cX12_layer 19 = .ok (.invokestatic 142, 3) := by decide +kernel
theorem dX12_layer_22 : decode cX12_layer 22 = .ok (.ifCond .eq 34, 3) := by decide +kernel
theorem dX12_layer_25 : decode cX12_layer 25 = .ok (.aload_n 0, 1) := by decide +kernel
theorem dX12_layer_26 : decode cX12_layer 26 = .ok (.getfield 181, 3) := by decide +kernel
theorem dX12_layer_29 : decode cX12_layer 29 = .ok (.bipush 6, 2) := by decide +kernel
theorem dX12_layer_31 : decode cX12_layer 31 = .ok (.if_icmp .eq 25, 3) := by decide +kernel
theorem dX12_layer_34 : decode cX12_layer 34 = .ok (.aload_n 0, 1) := by decide +kernel
theorem dX12_layer_35 : decode cX12_layer 35 = .ok (.getfield 181, 3) := by decide +kernel
theorem dX12_layer_38 : decode cX12_layer 38 = .ok (.ifCond .le 20, 3) := by decide +kernel
theorem dX12_layer_41 : decode cX12_layer 41 = .ok (.iload_n 1, 1) := by decide +kernel
theorem dX12_layer_42 : decode cX12_layer 42 = .ok (.aload_n 0, 1) := by decide +kernel
theorem dX12_layer_43 : decode cX12_layer 43 = .ok (.getfield 29, 3) := by decide +kernel
theorem dX12_layer_46 : decode cX12_layer 46 = .ok (.aload_n 0, 1) := by decide +kernel
theorem dX12_layer_47 : decode cX12_layer 47 = .ok (.getfield 181, 3) := by decide +kernel
theorem dX12_layer_50 : decode cX12_layer 50 = .ok (.iconst 1, 1) := by decide +kernel
theorem dX12_layer_51 : decode cX12_layer 51 = .ok (.isub, 1) := by decide +kernel
theorem dX12_layer_52 : decode cX12_layer 52 = .ok (.iaload, 1) := by decide +kernel
theorem dX12_layer_53 : decode cX12_layer 53 = .ok (.if_icmp .gt 5, 3) := by decide +kernel
theorem dX12_layer_56 : decode cX12_layer 56 = .ok (.iconst (-1), 1) := by decide +kernel
theorem dX12_layer_57 : decode cX12_layer 57 = .ok (.ireturn, 1) := by decide +kernel
theorem dX12_layer_58 : decode cX12_layer 58 = .ok (.aload_n 0, 1) := by decide +kernel
theorem dX12_layer_59 : decode cX12_layer 59 = .ok (.getfield 29, 3) := by decide +kernel
theorem dX12_layer_62 : decode cX12_layer 62 = .ok (.aload_n 0, 1) := by decide +kernel
theorem dX12_layer_63 : decode cX12_layer 63 = .ok (.getfield 181, 3) := by decide +kernel
theorem dX12_layer_66 : decode cX12_layer 66 = .ok (.iload_n 1, 1) := by decide +kernel
theorem dX12_layer_67 : decode cX12_layer 67 = .ok (.iastore, 1) := by decide +kernel
theorem dX12_layer_68 : decode cX12_layer 68 = .ok (.aload_n 0, 1) := by decide +kernel
theorem dX12_layer_69 : decode cX12_layer 69 = .ok (.getfield 32, 3) := by decide +kernel
theorem dX12_layer_72 : decode cX12_layer 72 = .ok (.aload_n 0, 1) := by decide +kernel
theorem dX12_layer_73 : decode cX12_layer 73 = .ok (.getfield 181, 3) := by decide +kernel
theorem dX12_layer_76 : decode cX12_layer 76 = .ok (.iload_n 2, 1) := by decide +kernel
theorem dX12_layer_77 : decode cX12_layer 77 = .ok (.iastore, 1) := by decide +kernel
theorem dX12_layer_78 : decode cX12_layer 78 = .ok (.aload_n 0, 1) := by decide +kernel
theorem dX12_layer_79 : decode cX12_layer 79 = .ok (.dup, 1) := by decide +kernel
theorem dX12_layer_80 : decode cX12_layer 80 = .ok (.getfield 181, 3) := by decide +kernel
theorem dX12_layer_83 : decode cX12_layer 83 = .ok (.iconst 1, 1) := by decide +kernel
theorem dX12_layer_84 : decode cX12_layer 84 = .ok (.iadd, 1) := by decide +kernel
theorem dX12_layer_85 : decode cX12_layer 85 = .ok (.putfield 181, 3) := by decide +kernel
theorem dX12_layer_88 : decode cX12_layer 88 = .ok (.aload_n 0, 1) := by decide +kernel
theorem dX12_layer_89 : decode cX12_layer 89 = .ok (.getfield 181, 3) := by decide +kernel
theorem dX12_layer_92 : decode cX12_layer 92 = .ok (.ireturn, 1) := by decide +kernel
theorem dX12_mix_0 : decode cX12_mix 0 = .ok (.aload_n 0, 1) := by decide +kernel
theorem dX12_mix_1 : decode cX12_mix 1 = .ok (.iconst 0, 1) := by decide +kernel
theorem dX12_mix_2 : decode cX12_mix 2 = .ok (.putfield 133, 3) := by decide +kernel
theorem dX12_mix_5 : decode cX12_mix 5 = .ok (.aload_n 0, 1) := by decide +kernel
theorem dX12_mix_6 : decode cX12_mix 6 = .ok (.getfield 181, 3) := by decide +kernel
theorem dX12_mix_9 : decode cX12_mix 9 = .ok (.istore_n 1, 1) := by decide +kernel
theorem dX12_mix_10 : decode cX12_mix 10 = .ok (.aload_n 0, 1) := by decide +kernel
theorem dX12_mix_11 : decode cX12_mix 11 = .ok (.iconst 0, 1) := by decide +kernel
theorem dX12_mix_12 : decode cX12_mix 12 = .ok (.putfield 181, 3) := by decide +kernel
theorem dX12_mix_15 : decode cX12_mix 15 = .ok (.iload_n 1, 1) := by decide +kernel
theorem dX12_mix_16 : decode cX12_mix 16 = .ok (.ireturn, 1) := by decide +kernel
theorem dX12_slack_0 : decode cX12_slack 0 = .ok (.aload_n 0, 1) := by decide +kernel
theorem dX12_slack_1 : decode cX12_slack 1 = .ok (.iconst 0, 1) := by decide +kernel
theorem dX12_slack_2 : decode cX12_slack 2 = .ok (.putfield 133, 3) := by decide +kernel
theorem dX12_slack_5 : decode cX12_slack 5 = .ok (.iload_n 1, 1) := by decide +kernel
theorem dX12_slack_6 : decode cX12_slack 6 = .ok (.iconst 0, 1) := by decide +kernel
theorem dX12_slack_7 : decode cX12_slack 7 = .ok (.iconst 2, 1) := by decide +kernel
theorem dX12_slack_8 : decode cX12_slack 8 = .ok (.invokestatic 142, 3) := by decide +kernel
theorem dX12_slack_11 : decode cX12_slack 11 = .ok (.ifCond .eq 23, 3) := by decide +kernel
theorem dX12_slack_14 : decode cX12_slack 14 = .ok (.iload_n 2, 1) := by decide +kernel
theorem dX12_slack_15 : decode cX12_slack 15 = .ok (.iconst 0, 1) := by decide +kernel
theorem dX12_slack_16 : decode cX12_slack 16 = .ok (.iload_n 1, 1) := by decide +kernel
theorem dX12_slack_17 : decode cX12_slack 17 = .ok (.ifCond .ne 8, 3) := by decide +kernel
theorem dX12_slack_20 : decode cX12_slack 20 = .ok (.bipush 50, 2) := by decide +kernel
theorem dX12_slack_22 : decode cX12_slack 22 = .ok (.goto 6, 3) := by decide +kernel
theorem dX12_slack_25 : decode cX12_slack 25 = .ok (.sipush 9999, 3) := by decide +kernel
theorem dX12_slack_28 : decode cX12_slack 28 = .ok (.invokestatic 142, 3) := by decide +kernel
theorem dX12_slack_31 : decode cX12_slack 31 = .ok (.ifCond .ne 5, 3) := by decide +kernel
theorem dX12_slack_34 : decode cX12_slack 34 = .ok (.iconst (-1), 1) := by decide +kernel
theorem dX12_slack_35 : decode cX12_slack 35 = .ok (.ireturn, 1) := by decide +kernel
theorem dX12_slack_36 : decode cX12_slack 36 = .ok (.aload_n 0, 1) := by decide +kernel
theorem dX12_slack_37 : decode cX12_slack 37 = .ok (.getfield 35, 3) := by decide +kernel
theorem dX12_slack_40 : decode cX12_slack 40 = .ok (.iload_n 1, 1) := by decide +kernel
theorem dX12_slack_41 : decode cX12_slack 41 = .ok (.iaload, 1) := by decide +kernel
theorem dX12_slack_42 : decode cX12_slack 42 = .ok (.istore_n 3, 1) := by decide +kernel
theorem dX12_slack_43 : decode cX12_slack 43 = .ok (.aload_n 0, 1) := by decide +kernel
theorem dX12_slack_44 : decode cX12_slack 44 = .ok (.getfield 35, 3) := by decide +kernel
theorem dX12_slack_47 : decode cX12_slack 47 = .ok (.iload_n 1, 1) := by decide +kernel
theorem dX12_slack_48 : decode cX12_slack 48 = .ok (.iload_n 2, 1) := by decide +kernel
theorem dX12_slack_49 : decode cX12_slack 49 = .ok (.iastore, 1) := by decide +kernel
theorem dX12_slack_50 : decode cX12_slack 50 = .ok (.iload_n 3, 1) := by decide +kernel
theorem dX12_slack_51 : decode cX12_slack 51 = .ok (.ireturn, 1) := by decide +kernel
theorem dX12_of_0 : decode cX12_of 0 = .ok (.aload_n 0, 1) := by decide +kernel
theorem dX12_of_1 : decode cX12_of 1 = .ok (.iconst 0, 1) := by decide +kernel
theorem dX12_of_2 : decode cX12_of 2 = .ok (.putfield 133, 3) := by decide +kernel
theorem dX12_of_5 : decode cX12_of 5 = .ok (.aload_n 0, 1) := by decide +kernel
theorem dX12_of_6 : decode cX12_of 6 = .ok (.iload_n 1, 1) := by decide +kernel
theorem dX12_of_7 : decode cX12_of 7 = .ok (.invokevirtual 146, 3) := by decide +kernel
theorem dX12_of_10 : decode cX12_of 10 = .ok (.ifCond .eq 12, 3) := by decide +kernel
theorem dX12_of_13 : decode cX12_of 13 = .ok (.iload_n 2, 1) := by decide +kernel
theorem dX12_of_14 : decode cX12_of 14 = .ok (.iconst 0, 1) := by decide +kernel
theorem dX12_of_15 : decode cX12_of 15 = .ok (.iconst 4, 1) := by decide +kernel
theorem dX12_of_16 : decode cX12_of 16 = .ok (.invokestatic 142, 3) := by decide +kernel
theorem dX12_of_19 : decode cX12_of 19 = .ok (.ifCond .ne 8, 3) := by decide +kernel
theorem dX12_of_22 : decode cX12_of 22 = .ok (.aload_n 0, 1) := by decide +kernel
theorem dX12_of_23 : decode cX12_of 23 = .ok (.invokevirtual 184, 3) := by decide +kernel
theorem dX12_of_26 : decode cX12_of 26 = .ok (.ireturn, 1) := by decide +kernel
theorem dX12_of_27 : decode cX12_of 27 = .ok (.iload_n 2, 1) := by decide +kernel
theorem dX12_of_28 : decode cX12_of 28 = .ok (.ifCond .ne 12, 3) := by decide +kernel
theorem dX12_of_31 : decode cX12_of 31 = .ok (.aload_n 0, 1) := by decide +kernel
theorem dX12_of_32 : decode cX12_of 32 = .ok (.getfield 9, 3) := by decide +kernel
theorem dX12_of_35 : decode cX12_of 35 = .ok (.iload_n 1, 1) := by decide +kernel
theorem dX12_of_36 : decode cX12_of 36 = .ok (.iaload, 1) := by decide +kernel
theorem dX12_of_37 : decode cX12_of 37 = .ok (.goto 51, 3) := by decide +kernel
theorem dX12_of_40 : decode cX12_of 40 = .ok (.iload_n 2, 1) := by decide +kernel
theorem dX12_of_41 : decode cX12_of 41 = .ok (.iconst 1, 1) := by decide +kernel
theorem dX12_of_42 : decode cX12_of 42 = .ok (.if_icmp .ne 12, 3) := by decide +kernel
theorem dX12_of_45 : decode cX12_of 45 = .ok (.aload_n 0, 1) := by decide +kernel
theorem dX12_of_46 : decode cX12_of 46 = .ok (.getfield 13, 3) := by decide +kernel
theorem dX12_of_49 : decode cX12_of 49 = .ok (.iload_n 1, 1) := by decide +kernel
theorem dX12_of_50 : decode cX12_of 50 = .ok (.iaload, 1) := by decide +kernel
theorem dX12_of_51 : decode cX12_of 51 = .ok (.goto 37, 3) := by decide +kernel
theorem dX12_of_54 : decode cX12_of 54 = .ok (.iload_n 2, 1) := by decide +kernel
theorem dX12_of_55 : decode cX12_of 55 = .ok (.iconst 2, 1) := by decide +kernel
theorem dX12_of_56 : decode cX12_of 56 = .ok (.if_icmp .ne 12, 3) := by decide +kernel
theorem dX12_of_59 : decode cX12_of 59 = .ok (.aload_n 0, 1) := by decide +kernel
theorem dX12_of_60 : decode cX12_of 60 = .ok (.getfield 16, 3) := by decide +kernel
theorem dX12_of_63 : decode cX12_of 63 = .ok (.iload_n 1, 1) := by decide +kernel
theorem dX12_of_64 : decode cX12_of 64 = .ok (.iaload, 1) := by decide +kernel
theorem dX12_of_65 : decode cX12_of 65 = .ok (.goto 23, 3) := by decide +kernel
theorem dX12_of_68 : decode cX12_of 68 = .ok (.iload_n 2, 1) := by decide +kernel
theorem dX12_of_69 : decode cX12_of 69 = .ok (.iconst 3, 1) := by decide +kernel
theorem dX12_of_70 : decode cX12_of 70 = .ok (.if_icmp .ne 12, 3) := by decide +kernel
theorem dX12_of_73 : decode cX12_of 73 = .ok (.aload_n 0, 1) := by decide +kernel
theorem dX12_of_74 : decode cX12_of 74 = .ok (.getfield 19, 3) := by decide +kernel
theorem dX12_of_77 : decode cX12_of 77 = .ok (.iload_n 1, 1) := by decide +kernel
theorem dX12_of_78 : decode cX12_of 78 = .ok (.iaload, 1) := by decide +kernel
theorem dX12_of_79 : decode cX12_of 79 = .ok (.goto 9, 3) := by decide +kernel
theorem dX12_of_82 : decode cX12_of 82 = .ok (.aload_n 0, 1) := by decide +kernel
theorem dX12_of_83 : decode cX12_of 83 = .ok (.getfield 22, 3) := by decide +kernel
theorem dX12_of_86 : decode cX12_of 86 = .ok (.iload_n 1, 1) := by decide +kernel
theorem dX12_of_87 : decode cX12_of 87 = .ok (.iaload, 1) := by decide +kernel
theorem dX12_of_88 : decode cX12_of 88 = .ok (.ireturn, 1) := by decide +kernel
noncomputable def fX12_thrown (h : HS) : Option (Int32 × HS) := some ((gI h 0 22), h)
set_option maxRecDepth 100000 in
theorem tX12_thrown {r : Int32} {h h0 : HS} (H : fX12_thrown h = some (r, h0)) : Cn skM yX12_thrown cX12_thrown 1 (some .int) 0 [.ref 0] h (some (.int r)) h0 := by
  refine Cn_of (L := [some (.ref 0)]) (by decide +kernel) (by simp [lg_sl, Value.category]) (fun ad => by simp [lg_sl, tv, Value.category]) (⟨rfl, trivial⟩) ?_
  unfold fX12_thrown at H
  refine j_aload_n (pc := 0) dX12_thrown_0 rfl ?_
  refine j_getI (pc := 1) dX12_thrown_1 flX12_133 rfl ?_
  exact j_ireturn (pc := 4) dX12_thrown_4 rfl (ri_1 H) (ri_2 H)

noncomputable def fX12_in (p1 : Int32) (p2 : Int32) (p3 : Int32) (h : HS) : Option (Int32 × HS) := if p1 < p2 then (some ((0 : Int32), h)) else (if p3 < p1 then (some ((0 : Int32), h)) else (some ((1 : Int32), h)))
set_option maxRecDepth 100000 in
theorem tX12_in {p1 : Int32} {p2 : Int32} {p3 : Int32} {r : Int32} {h h0 : HS} (H : fX12_in p1 p2 p3 h = some (r, h0)) : Cn skM yX12_in cX12_in 3 (some .boolean) 0 [.int p1, .int p2, .int p3] h (some (.int r)) h0 := by
  refine Cn_of (L := [some (.int p1), some (.int p2), some (.int p3)]) (by decide +kernel) (by simp [lg_sl, Value.category]) (fun ad => by simp [lg_sl, tv, Value.category]) (⟨rfl, ⟨rfl, ⟨rfl, trivial⟩⟩⟩) ?_
  unfold fX12_in at H
  refine j_iload_n (pc := 0) dX12_in_0 rfl ?_
  refine j_iload_n (pc := 1) dX12_in_1 rfl ?_
  refine j_icmp_lt (pc := 2) (tgt := 14) dX12_in_2 (by decide) (fun c1 => ?_) (fun c1 => ?_)
  · rw [if_pos c1] at H
    refine j_iconst (pc := 14) (v := 0) dX12_in_14 (by decide) ?_
    exact j_zreturn (pc := 15) dX12_in_15 rfl (rz0 H) (ri_2 H)
  · rw [if_neg c1] at H
    refine j_iload_n (pc := 5) dX12_in_5 rfl ?_
    refine j_iload_n (pc := 6) dX12_in_6 rfl ?_
    refine j_icmp_gt (pc := 7) (tgt := 14) dX12_in_7 (by decide) (fun c2 => ?_) (fun c2 => ?_)
    · rw [if_pos c2] at H
      refine j_iconst (pc := 14) (v := 0) dX12_in_14 (by decide) ?_
      exact j_zreturn (pc := 15) dX12_in_15 rfl (rz0 H) (ri_2 H)
    · rw [if_neg c2] at H
      refine j_iconst (pc := 10) (v := 1) dX12_in_10 (by decide) ?_
      refine j_goto (pc := 11) (tgt := 15) dX12_in_11 (by decide) ?_
      exact j_zreturn (pc := 15) dX12_in_15 rfl (rz1 H) (ri_2 H)

noncomputable def fX12_has (p1 : Int32) (p2 : Int32) (h : HS) : Option (Int32 × HS) := if ((p1 >>> (p2 &&& 31)) &&& (1 : Int32)) = (1 : Int32) then (some ((1 : Int32), h)) else (some ((0 : Int32), h))
set_option maxRecDepth 100000 in
theorem tX12_has {p1 : Int32} {p2 : Int32} {r : Int32} {h h0 : HS} (H : fX12_has p1 p2 h = some (r, h0)) : Cn skM yX12_has cX12_has 2 (some .boolean) 0 [.int p1, .int p2] h (some (.int r)) h0 := by
  refine Cn_of (L := [some (.int p1), some (.int p2)]) (by decide +kernel) (by simp [lg_sl, Value.category]) (fun ad => by simp [lg_sl, tv, Value.category]) (⟨rfl, ⟨rfl, trivial⟩⟩) ?_
  unfold fX12_has at H
  refine j_iload_n (pc := 0) dX12_has_0 rfl ?_
  refine j_iload_n (pc := 1) dX12_has_1 rfl ?_
  refine j_ishr (pc := 2) dX12_has_2 ?_
  refine j_iconst (pc := 3) (v := 1) dX12_has_3 (by decide) ?_
  refine j_iand (pc := 4) dX12_has_4 ?_
  refine j_iconst (pc := 5) (v := 1) dX12_has_5 (by decide) ?_
  refine j_icmp_ne (pc := 6) (tgt := 13) dX12_has_6 (by decide) (fun c1 => ?_) (fun c1 => ?_)
  · rw [if_neg c1] at H
    refine j_iconst (pc := 13) (v := 0) dX12_has_13 (by decide) ?_
    exact j_zreturn (pc := 14) dX12_has_14 rfl (rz0 H) (ri_2 H)
  · rw [if_pos c1] at H
    refine j_iconst (pc := 9) (v := 1) dX12_has_9 (by decide) ?_
    refine j_goto (pc := 10) (tgt := 14) dX12_has_10 (by decide) ?_
    exact j_zreturn (pc := 14) dX12_has_14 rfl (rz1 H) (ri_2 H)

noncomputable def fX12_lost (h : HS) : Option (Int32 × HS) := nm (pI h 0 22 (1 : Int32)) (fun h1 => some ((0 : Int32), h1))
set_option maxRecDepth 100000 in
theorem tX12_lost {r : Int32} {h h0 : HS} (H : fX12_lost h = some (r, h0)) : Cn skM yX12_lost cX12_lost 1 (some .int) 0 [.ref 0] h (some (.int r)) h0 := by
  refine Cn_of (L := [some (.ref 0)]) (by decide +kernel) (by simp [lg_sl, Value.category]) (fun ad => by simp [lg_sl, tv, Value.category]) (⟨rfl, trivial⟩) ?_
  unfold fX12_lost at H
  refine j_aload_n (pc := 0) dX12_lost_0 rfl ?_
  refine j_iconst (pc := 1) (v := 1) dX12_lost_1 (by decide) ?_
  obtain ⟨h1, eh1, H⟩ := nm_x H
  refine j_putI (pc := 2) dX12_lost_2 fpX12_133 rfl h1 eh1 ?_
  refine j_iconst (pc := 5) (v := 0) dX12_lost_5 (by decide) ?_
  exact j_ireturn (pc := 6) dX12_lost_6 rfl (ri_1 H) (ri_2 H)

noncomputable def fX12_tell (p1 : Int32) (h : HS) : Option HS := ck (inb (gI h 0 21) 24) (nm (pI h 10 (gI h 0 21).toNatClampNeg p1) (fun h1 => nm (pI h1 0 21 ((gI h1 0 21) + (1 : Int32))) (fun h3 => some h3)))
set_option maxRecDepth 100000 in
theorem tX12_tell {p1 : Int32} {h h0 : HS} (H : fX12_tell p1 h = some h0) : Cn skM yX12_tell cX12_tell 2 none 0 [.ref 0, .int p1] h none h0 := by
  refine Cn_of (L := [some (.ref 0), some (.int p1)]) (by decide +kernel) (by simp [lg_sl, Value.category]) (fun ad => by simp [lg_sl, tv, Value.category]) (⟨rfl, ⟨rfl, trivial⟩⟩) ?_
  unfold fX12_tell at H
  refine j_aload_n (pc := 0) dX12_tell_0 rfl ?_
  refine j_getR (pc := 1) (b := 10) dX12_tell_1 flX12_45 rfl ?_
  refine j_aload_n (pc := 4) dX12_tell_4 rfl ?_
  refine j_getI (pc := 5) dX12_tell_5 flX12_136 rfl ?_
  refine j_iload_n (pc := 8) dX12_tell_8 rfl ?_
  obtain ⟨b2, H⟩ := ck_x H
  obtain ⟨h1, eh1, H⟩ := nm_x H
  refine j_iastore (pc := 9) dX12_tell_9 rfl b2 rfl h1 eh1 ?_
  refine j_aload_n (pc := 10) dX12_tell_10 rfl ?_
  refine j_dup (pc := 11) dX12_tell_11 rfl ?_
  refine j_getI (pc := 12) dX12_tell_12 flX12_136 rfl ?_
  refine j_iconst (pc := 15) (v := 1) dX12_tell_15 (by decide) ?_
  refine j_iadd (pc := 16) dX12_tell_16 ?_
  obtain ⟨h3, eh3, H⟩ := nm_x H
  refine j_putI (pc := 17) dX12_tell_17 fpX12_136 rfl h3 eh3 ?_
  exact j_return (pc := 20) dX12_tell_20 rfl rfl (rv_2 H)

noncomputable def fX12_isLoad (p1 : Int32) (h : HS) : Option (Int32 × HS) := bd (fX12_in p1 (0 : Int32) (((gI h 0 0) - (1 : Int32))) h) (fun r2 h1 => some (vp_nar .boolean r2, h1))
set_option maxRecDepth 100000 in
theorem tX12_isLoad {p1 : Int32} {r : Int32} {h h0 : HS} (H : fX12_isLoad p1 h = some (r, h0)) : Cn skM yX12_isLoad cX12_isLoad 2 (some .boolean) 1 [.ref 0, .int p1] h (some (.int r)) h0 := by
  refine Cn_of (L := [some (.ref 0), some (.int p1)]) (by decide +kernel) (by simp [lg_sl, Value.category]) (fun ad => by simp [lg_sl, tv, Value.category]) (⟨rfl, ⟨rfl, trivial⟩⟩) ?_
  unfold fX12_isLoad at H
  refine j_iload_n (pc := 0) dX12_isLoad_0 rfl ?_
  refine j_iconst (pc := 1) (v := 0) dX12_isLoad_1 (by decide) ?_
  refine j_aload_n (pc := 2) dX12_isLoad_2 rfl ?_
  refine j_getI (pc := 3) dX12_isLoad_3 flX12_139 rfl ?_
  refine j_iconst (pc := 6) (v := 1) dX12_isLoad_6 (by decide) ?_
  refine j_isub (pc := 7) dX12_isLoad_7 ?_
  obtain ⟨r2, h1, eh1, H⟩ := bd_x H
  refine j_callS (pc := 8) dX12_isLoad_8 mlX12_142 wyX12_in (tX12_in eh1) (by decide) rfl (by simp [Value.category]) rfl ?_
  exact j_zreturn (pc := 11) dX12_isLoad_11 rfl (ri_1 H) (ri_2 H)

noncomputable def fX12_isOf (p1 : Int32) (p2 : Int32) (h : HS) : Option (Int32 × HS) := bd (fX12_isLoad p1 h) (fun r2 h1 => if r2 = 0 then (some ((0 : Int32), h1)) else (ck (inb p1 15) (if (gI h1 1 p1.toNatClampNeg) = p2 then (some ((1 : Int32), h1)) else (some ((0 : Int32), h1)))))
set_option maxRecDepth 100000 in
theorem tX12_isOf {p1 : Int32} {p2 : Int32} {r : Int32} {h h0 : HS} (H : fX12_isOf p1 p2 h = some (r, h0)) : Cn skM yX12_isOf cX12_isOf 3 (some .boolean) 2 [.ref 0, .int p1, .int p2] h (some (.int r)) h0 := by
  refine Cn_of (L := [some (.ref 0), some (.int p1), some (.int p2)]) (by decide +kernel) (by simp [lg_sl, Value.category]) (fun ad => by simp [lg_sl, tv, Value.category]) (⟨rfl, ⟨rfl, ⟨rfl, trivial⟩⟩⟩) ?_
  unfold fX12_isOf at H
  refine j_aload_n (pc := 0) dX12_isOf_0 rfl ?_
  refine j_iload_n (pc := 1) dX12_isOf_1 rfl ?_
  obtain ⟨r2, h1, eh1, H⟩ := bd_x H
  refine j_callV (pc := 2) dX12_isOf_2 mlX12_146 wyX12_isLoad (tX12_isLoad eh1) (by decide) rfl rfl rfl rfl (by simp [Value.category]) rfl ?_
  refine j_if_eq (pc := 5) (tgt := 22) dX12_isOf_5 (by decide) (fun c3 => ?_) (fun c3 => ?_)
  · rw [if_pos c3] at H
    refine j_iconst (pc := 22) (v := 0) dX12_isOf_22 (by decide) ?_
    exact j_zreturn (pc := 23) dX12_isOf_23 rfl (rz0 H) (ri_2 H)
  · rw [if_neg c3] at H
    refine j_aload_n (pc := 8) dX12_isOf_8 rfl ?_
    refine j_getR (pc := 9) (b := 1) dX12_isOf_9 flX12_9 rfl ?_
    refine j_iload_n (pc := 12) dX12_isOf_12 rfl ?_
    obtain ⟨b4, H⟩ := ck_x H
    refine j_iaload (pc := 13) dX12_isOf_13 rfl b4 rfl ?_
    refine j_iload_n (pc := 14) dX12_isOf_14 rfl ?_
    refine j_icmp_ne (pc := 15) (tgt := 22) dX12_isOf_15 (by decide) (fun c5 => ?_) (fun c5 => ?_)
    · rw [if_neg c5] at H
      refine j_iconst (pc := 22) (v := 0) dX12_isOf_22 (by decide) ?_
      exact j_zreturn (pc := 23) dX12_isOf_23 rfl (rz0 H) (ri_2 H)
    · rw [if_pos c5] at H
      refine j_iconst (pc := 18) (v := 1) dX12_isOf_18 (by decide) ?_
      refine j_goto (pc := 19) (tgt := 23) dX12_isOf_19 (by decide) ?_
      exact j_zreturn (pc := 23) dX12_isOf_23 rfl (rz1 H) (ri_2 H)

noncomputable def fX12_isDepth (p1 : Int32) (h : HS) : Option (Int32 × HS) := bd (fX12_in p1 (0 : Int32) (600 : Int32) h) (fun r2 h1 => some (vp_nar .boolean r2, h1))
set_option maxRecDepth 100000 in
theorem tX12_isDepth {p1 : Int32} {r : Int32} {h h0 : HS} (H : fX12_isDepth p1 h = some (r, h0)) : Cn skM yX12_isDepth cX12_isDepth 1 (some .boolean) 1 [.int p1] h (some (.int r)) h0 := by
  refine Cn_of (L := [some (.int p1)]) (by decide +kernel) (by simp [lg_sl, Value.category]) (fun ad => by simp [lg_sl, tv, Value.category]) (⟨rfl, trivial⟩) ?_
  unfold fX12_isDepth at H
  refine j_iload_n (pc := 0) dX12_isDepth_0 rfl ?_
  refine j_iconst (pc := 1) (v := 0) dX12_isDepth_1 (by decide) ?_
  refine j_sipush (pc := 2) (v := 600) dX12_isDepth_2 (by decide) ?_
  obtain ⟨r2, h1, eh1, H⟩ := bd_x H
  refine j_callS (pc := 5) dX12_isDepth_5 mlX12_142 wyX12_in (tX12_in eh1) (by decide) rfl (by simp [Value.category]) rfl ?_
  exact j_zreturn (pc := 8) dX12_isDepth_8 rfl (ri_1 H) (ri_2 H)

noncomputable def fX12_roomOf (p1 : Int32) (h : HS) : Option (Int32 × HS) := ck (inb p1 15) (ck (inb p1 15) (some (((gI h 4 p1.toNatClampNeg) - (gI h 5 p1.toNatClampNeg)), h)))
set_option maxRecDepth 100000 in
theorem tX12_roomOf {p1 : Int32} {r : Int32} {h h0 : HS} (H : fX12_roomOf p1 h = some (r, h0)) : Cn skM yX12_roomOf cX12_roomOf 2 (some .int) 0 [.ref 0, .int p1] h (some (.int r)) h0 := by
  refine Cn_of (L := [some (.ref 0), some (.int p1)]) (by decide +kernel) (by simp [lg_sl, Value.category]) (fun ad => by simp [lg_sl, tv, Value.category]) (⟨rfl, ⟨rfl, trivial⟩⟩) ?_
  unfold fX12_roomOf at H
  refine j_aload_n (pc := 0) dX12_roomOf_0 rfl ?_
  refine j_getR (pc := 1) (b := 4) dX12_roomOf_1 flX12_19 rfl ?_
  refine j_iload_n (pc := 4) dX12_roomOf_4 rfl ?_
  obtain ⟨b1, H⟩ := ck_x H
  refine j_iaload (pc := 5) dX12_roomOf_5 rfl b1 rfl ?_
  refine j_aload_n (pc := 6) dX12_roomOf_6 rfl ?_
  refine j_getR (pc := 7) (b := 5) dX12_roomOf_7 flX12_22 rfl ?_
  refine j_iload_n (pc := 10) dX12_roomOf_10 rfl ?_
  obtain ⟨b2, H⟩ := ck_x H
  refine j_iaload (pc := 11) dX12_roomOf_11 rfl b2 rfl ?_
  refine j_isub (pc := 12) dX12_roomOf_12 ?_
  exact j_ireturn (pc := 13) dX12_roomOf_13 rfl (ri_1 H) (ri_2 H)

noncomputable def fX12_push_2 : Nat → Int32 → HS → Option HS
  | 0, _, _ => none
  | n + 1, v1, h => if (15 : Int32) ≤ v1 then (nm (pI h 0 24 ((gI h 0 24) + (1 : Int32))) (fun h2 => some h2)) else (ck (inb v1 15) (ck (inb (((15 : Int32) * (gI h 0 24)) + v1) 60) (nm (pI h 11 (((15 : Int32) * (gI h 0 24)) + v1).toNatClampNeg (gI h 5 v1.toNatClampNeg)) (fun h4 => nm (v1 + (1 : Int32)) (fun v1_6 => fX12_push_2 n v1_6 h4)))))
set_option maxRecDepth 100000 in
theorem jX12_push_2 {h0 : HS} : ∀ (n : Nat) (v1 : Int32) (h : HS), fX12_push_2 n v1 h = some h0 → Jx skM RX12 cX12_push 2 none 0 none h0 2 [some (.ref 0), some (.int v1)] [] h := by
  intro n
  induction n with
  | zero => intro v1  h H; cases H
  | succ n ih =>
    intro v1  h H
    rw [fX12_push_2] at H
    refine j_iload_n (pc := 2) dX12_push_2 rfl ?_
    refine j_bipush (pc := 3) (v := 15) dX12_push_3 (by decide) ?_
    refine j_icmp_ge (pc := 5) (tgt := 34) dX12_push_5 (by decide) (fun c1 => ?_) (fun c1 => ?_)
    · rw [if_pos c1] at H
      refine j_aload_n (pc := 34) dX12_push_34 rfl ?_
      refine j_dup (pc := 35) dX12_push_35 rfl ?_
      refine j_getI (pc := 36) dX12_push_36 flX12_150 rfl ?_
      refine j_iconst (pc := 39) (v := 1) dX12_push_39 (by decide) ?_
      refine j_iadd (pc := 40) dX12_push_40 ?_
      obtain ⟨h2, eh2, H⟩ := nm_x H
      refine j_putI (pc := 41) dX12_push_41 fpX12_150 rfl h2 eh2 ?_
      exact j_return (pc := 44) dX12_push_44 rfl rfl (rv_2 H)
    · rw [if_neg c1] at H
      refine j_aload_n (pc := 8) dX12_push_8 rfl ?_
      refine j_getR (pc := 9) (b := 11) dX12_push_9 flX12_48 rfl ?_
      refine j_bipush (pc := 12) (v := 15) dX12_push_12 (by decide) ?_
      refine j_aload_n (pc := 14) dX12_push_14 rfl ?_
      refine j_getI (pc := 15) dX12_push_15 flX12_150 rfl ?_
      refine j_imul (pc := 18) dX12_push_18 ?_
      refine j_iload_n (pc := 19) dX12_push_19 rfl ?_
      refine j_iadd (pc := 20) dX12_push_20 ?_
      refine j_aload_n (pc := 21) dX12_push_21 rfl ?_
      refine j_getR (pc := 22) (b := 5) dX12_push_22 flX12_22 rfl ?_
      refine j_iload_n (pc := 25) dX12_push_25 rfl ?_
      obtain ⟨b3, H⟩ := ck_x H
      refine j_iaload (pc := 26) dX12_push_26 rfl b3 rfl ?_
      obtain ⟨b5, H⟩ := ck_x H
      obtain ⟨h4, eh4, H⟩ := nm_x H
      refine j_iastore (pc := 27) dX12_push_27 rfl b5 rfl h4 eh4 ?_
      obtain ⟨v1_6, ev1_6, H⟩ := nm_x H
      refine j_iinc (pc := 28) (L' := [some (.ref 0), some (.int v1_6)]) (w := 1) dX12_push_28 rfl (by decide) (by decide) v1_6 ev1_6 rfl ?_
      refine j_goto (pc := 31) (tgt := 2) dX12_push_31 (by decide) ?_
      refine Jx.sub (L' := [some (.ref 0), some (.int v1_6)]) (⟨rfl, ⟨rfl, trivial⟩⟩) ?_
      exact ih v1_6 h4 H
noncomputable def fX12_push (h : HS) : Option HS := fX12_push_2 FU (0 : Int32) h
set_option maxRecDepth 100000 in
theorem tX12_push {h h0 : HS} (H : fX12_push h = some h0) : Cn skM yX12_push cX12_push 2 none 0 [.ref 0] h none h0 := by
  refine Cn_of (L := [some (.ref 0), none]) (by decide +kernel) (by simp [lg_sl, Value.category]) (fun ad => by simp [lg_sl, tv, Value.category]) (⟨rfl, trivial⟩) ?_
  unfold fX12_push at H
  refine j_iconst (pc := 0) (v := 0) dX12_push_0 (by decide) ?_
  refine j_istore_n (pc := 1) (L' := [some (.ref 0), some (.int (0 : Int32))]) dX12_push_1 (by decide) rfl ?_
  refine Jx.sub (L' := [some (.ref 0), some (.int (0 : Int32))]) (⟨rfl, ⟨rfl, trivial⟩⟩) ?_
  exact jX12_push_2 FU (0 : Int32) h H

noncomputable def fX12_pop_12 : Nat → Int32 → HS → Option HS
  | 0, _, _ => none
  | n + 1, v1, h => if (15 : Int32) ≤ v1 then (some h) else (ck (inb (((15 : Int32) * (gI h 0 24)) + v1) 60) (ck (inb v1 15) (nm (pI h 5 v1.toNatClampNeg (gI h 11 (((15 : Int32) * (gI h 0 24)) + v1).toNatClampNeg)) (fun h4 => nm (v1 + (1 : Int32)) (fun v1_6 => fX12_pop_12 n v1_6 h4)))))
set_option maxRecDepth 100000 in
theorem jX12_pop_12 {h0 : HS} : ∀ (n : Nat) (v1 : Int32) (h : HS), fX12_pop_12 n v1 h = some h0 → Jx skM RX12 cX12_pop 2 none 0 none h0 12 [some (.ref 0), some (.int v1)] [] h := by
  intro n
  induction n with
  | zero => intro v1  h H; cases H
  | succ n ih =>
    intro v1  h H
    rw [fX12_pop_12] at H
    refine j_iload_n (pc := 12) dX12_pop_12 rfl ?_
    refine j_bipush (pc := 13) (v := 15) dX12_pop_13 (by decide) ?_
    refine j_icmp_ge (pc := 15) (tgt := 44) dX12_pop_15 (by decide) (fun c2 => ?_) (fun c2 => ?_)
    · rw [if_pos c2] at H
      exact j_return (pc := 44) dX12_pop_44 rfl rfl (rv_2 H)
    · rw [if_neg c2] at H
      refine j_aload_n (pc := 18) dX12_pop_18 rfl ?_
      refine j_getR (pc := 19) (b := 5) dX12_pop_19 flX12_22 rfl ?_
      refine j_iload_n (pc := 22) dX12_pop_22 rfl ?_
      refine j_aload_n (pc := 23) dX12_pop_23 rfl ?_
      refine j_getR (pc := 24) (b := 11) dX12_pop_24 flX12_48 rfl ?_
      refine j_bipush (pc := 27) (v := 15) dX12_pop_27 (by decide) ?_
      refine j_aload_n (pc := 29) dX12_pop_29 rfl ?_
      refine j_getI (pc := 30) dX12_pop_30 flX12_150 rfl ?_
      refine j_imul (pc := 33) dX12_pop_33 ?_
      refine j_iload_n (pc := 34) dX12_pop_34 rfl ?_
      refine j_iadd (pc := 35) dX12_pop_35 ?_
      obtain ⟨b3, H⟩ := ck_x H
      refine j_iaload (pc := 36) dX12_pop_36 rfl b3 rfl ?_
      obtain ⟨b5, H⟩ := ck_x H
      obtain ⟨h4, eh4, H⟩ := nm_x H
      refine j_iastore (pc := 37) dX12_pop_37 rfl b5 rfl h4 eh4 ?_
      obtain ⟨v1_6, ev1_6, H⟩ := nm_x H
      refine j_iinc (pc := 38) (L' := [some (.ref 0), some (.int v1_6)]) (w := 1) dX12_pop_38 rfl (by decide) (by decide) v1_6 ev1_6 rfl ?_
      refine j_goto (pc := 41) (tgt := 12) dX12_pop_41 (by decide) ?_
      refine Jx.sub (L' := [some (.ref 0), some (.int v1_6)]) (⟨rfl, ⟨rfl, trivial⟩⟩) ?_
      exact ih v1_6 h4 H
noncomputable def fX12_pop (h : HS) : Option HS := nm (pI h 0 24 ((gI h 0 24) - (1 : Int32))) (fun h1 => fX12_pop_12 FU (0 : Int32) h1)
set_option maxRecDepth 100000 in
theorem tX12_pop {h h0 : HS} (H : fX12_pop h = some h0) : Cn skM yX12_pop cX12_pop 2 none 0 [.ref 0] h none h0 := by
  refine Cn_of (L := [some (.ref 0), none]) (by decide +kernel) (by simp [lg_sl, Value.category]) (fun ad => by simp [lg_sl, tv, Value.category]) (⟨rfl, trivial⟩) ?_
  unfold fX12_pop at H
  refine j_aload_n (pc := 0) dX12_pop_0 rfl ?_
  refine j_dup (pc := 1) dX12_pop_1 rfl ?_
  refine j_getI (pc := 2) dX12_pop_2 flX12_150 rfl ?_
  refine j_iconst (pc := 5) (v := 1) dX12_pop_5 (by decide) ?_
  refine j_isub (pc := 6) dX12_pop_6 ?_
  obtain ⟨h1, eh1, H⟩ := nm_x H
  refine j_putI (pc := 7) dX12_pop_7 fpX12_150 rfl h1 eh1 ?_
  refine j_iconst (pc := 10) (v := 0) dX12_pop_10 (by decide) ?_
  refine j_istore_n (pc := 11) (L' := [some (.ref 0), some (.int (0 : Int32))]) dX12_pop_11 (by decide) rfl ?_
  refine Jx.sub (L' := [some (.ref 0), some (.int (0 : Int32))]) (⟨rfl, ⟨rfl, trivial⟩⟩) ?_
  exact jX12_pop_12 FU (0 : Int32) h1 H

noncomputable def fX12_load (p1 : Int32) (p2 : Int32) (p3 : Int32) (p4 : Int32) (p5 : Int32) (h : HS) : Option (Int32 × HS) := nm (pI h 0 22 (0 : Int32)) (fun h1 => bd (fX12_in p1 (0 : Int32) (3 : Int32) h1) (fun r3 h2 => if r3 = 0 then (some ((-1 : Int32), h2)) else (bd (fX12_in p2 (-99 : Int32) (99 : Int32) h2) (fun r6 h5 => if r6 = 0 then (some ((-1 : Int32), h5)) else (bd (fX12_in p3 (-9 : Int32) (9 : Int32) h5) (fun r9 h8 => if r9 = 0 then (some ((-1 : Int32), h8)) else (bd (fX12_in p4 (0 : Int32) (999 : Int32) h8) (fun r12 h11 => if r12 = 0 then (some ((-1 : Int32), h11)) else (bd (fX12_in p5 (0 : Int32) p4 h11) (fun r15 h14 => if r15 = 0 then (some ((-1 : Int32), h14)) else (if (gI h14 0 0) = (15 : Int32) then (some ((-1 : Int32), h14)) else (ck (inb (gI h14 0 0) 15) (nm (pI h14 1 (gI h14 0 0).toNatClampNeg p1) (fun h18 => ck (inb (gI h18 0 0) 15) (nm (pI h18 2 (gI h18 0 0).toNatClampNeg p2) (fun h20 => ck (inb (gI h20 0 0) 15) (nm (pI h20 3 (gI h20 0 0).toNatClampNeg p3) (fun h22 => ck (inb (gI h22 0 0) 15) (nm (pI h22 4 (gI h22 0 0).toNatClampNeg p4) (fun h24 => ck (inb (gI h24 0 0) 15) (nm (pI h24 5 (gI h24 0 0).toNatClampNeg p5) (fun h26 => ck (inb (gI h26 0 0) 15) (nm (pI h26 32 (gI h26 0 0).toNatClampNeg (-1 : Int32)) (fun h28 => nm (pI h28 0 0 ((gI h28 0 0) + (1 : Int32))) (fun h30 => some (((gI h30 0 0) - (1 : Int32)), h30))))))))))))))))))))))))))
set_option maxRecDepth 100000 in
theorem tX12_load {p1 : Int32} {p2 : Int32} {p3 : Int32} {p4 : Int32} {p5 : Int32} {r : Int32} {h h0 : HS} (H : fX12_load p1 p2 p3 p4 p5 h = some (r, h0)) : Cn skM yX12_load cX12_load 6 (some .int) 1 [.ref 0, .int p1, .int p2, .int p3, .int p4, .int p5] h (some (.int r)) h0 := by
  refine Cn_of (L := [some (.ref 0), some (.int p1), some (.int p2), some (.int p3), some (.int p4), some (.int p5)]) (by decide +kernel) (by simp [lg_sl, Value.category]) (fun ad => by simp [lg_sl, tv, Value.category]) (⟨rfl, ⟨rfl, ⟨rfl, ⟨rfl, ⟨rfl, ⟨rfl, trivial⟩⟩⟩⟩⟩⟩) ?_
  unfold fX12_load at H
  refine j_aload_n (pc := 0) dX12_load_0 rfl ?_
  refine j_iconst (pc := 1) (v := 0) dX12_load_1 (by decide) ?_
  obtain ⟨h1, eh1, H⟩ := nm_x H
  refine j_putI (pc := 2) dX12_load_2 fpX12_133 rfl h1 eh1 ?_
  refine j_iload_n (pc := 5) dX12_load_5 rfl ?_
  refine j_iconst (pc := 6) (v := 0) dX12_load_6 (by decide) ?_
  refine j_iconst (pc := 7) (v := 3) dX12_load_7 (by decide) ?_
  obtain ⟨r3, h2, eh2, H⟩ := bd_x H
  refine j_callS (pc := 8) dX12_load_8 mlX12_142 wyX12_in (tX12_in eh2) (by decide) rfl (by simp [Value.category]) rfl ?_
  refine j_if_eq (pc := 11) (tgt := 68) dX12_load_11 (by decide) (fun c4 => ?_) (fun c4 => ?_)
  · rw [if_pos c4] at H
    refine j_iconst (pc := 68) (v := -1) dX12_load_68 (by decide) ?_
    exact j_ireturn (pc := 69) dX12_load_69 rfl (ri_1 H) (ri_2 H)
  · rw [if_neg c4] at H
    refine j_iload_n (pc := 14) dX12_load_14 rfl ?_
    refine j_bipush (pc := 15) (v := -99) dX12_load_15 (by decide) ?_
    refine j_bipush (pc := 17) (v := 99) dX12_load_17 (by decide) ?_
    obtain ⟨r6, h5, eh5, H⟩ := bd_x H
    refine j_callS (pc := 19) dX12_load_19 mlX12_142 wyX12_in (tX12_in eh5) (by decide) rfl (by simp [Value.category]) rfl ?_
    refine j_if_eq (pc := 22) (tgt := 68) dX12_load_22 (by decide) (fun c7 => ?_) (fun c7 => ?_)
    · rw [if_pos c7] at H
      refine j_iconst (pc := 68) (v := -1) dX12_load_68 (by decide) ?_
      exact j_ireturn (pc := 69) dX12_load_69 rfl (ri_1 H) (ri_2 H)
    · rw [if_neg c7] at H
      refine j_iload_n (pc := 25) dX12_load_25 rfl ?_
      refine j_bipush (pc := 26) (v := -9) dX12_load_26 (by decide) ?_
      refine j_bipush (pc := 28) (v := 9) dX12_load_28 (by decide) ?_
      obtain ⟨r9, h8, eh8, H⟩ := bd_x H
      refine j_callS (pc := 30) dX12_load_30 mlX12_142 wyX12_in (tX12_in eh8) (by decide) rfl (by simp [Value.category]) rfl ?_
      refine j_if_eq (pc := 33) (tgt := 68) dX12_load_33 (by decide) (fun c10 => ?_) (fun c10 => ?_)
      · rw [if_pos c10] at H
        refine j_iconst (pc := 68) (v := -1) dX12_load_68 (by decide) ?_
        exact j_ireturn (pc := 69) dX12_load_69 rfl (ri_1 H) (ri_2 H)
      · rw [if_neg c10] at H
        refine j_iload (pc := 36) dX12_load_36 rfl ?_
        refine j_iconst (pc := 38) (v := 0) dX12_load_38 (by decide) ?_
        refine j_sipush (pc := 39) (v := 999) dX12_load_39 (by decide) ?_
        obtain ⟨r12, h11, eh11, H⟩ := bd_x H
        refine j_callS (pc := 42) dX12_load_42 mlX12_142 wyX12_in (tX12_in eh11) (by decide) rfl (by simp [Value.category]) rfl ?_
        refine j_if_eq (pc := 45) (tgt := 68) dX12_load_45 (by decide) (fun c13 => ?_) (fun c13 => ?_)
        · rw [if_pos c13] at H
          refine j_iconst (pc := 68) (v := -1) dX12_load_68 (by decide) ?_
          exact j_ireturn (pc := 69) dX12_load_69 rfl (ri_1 H) (ri_2 H)
        · rw [if_neg c13] at H
          refine j_iload (pc := 48) dX12_load_48 rfl ?_
          refine j_iconst (pc := 50) (v := 0) dX12_load_50 (by decide) ?_
          refine j_iload (pc := 51) dX12_load_51 rfl ?_
          obtain ⟨r15, h14, eh14, H⟩ := bd_x H
          refine j_callS (pc := 53) dX12_load_53 mlX12_142 wyX12_in (tX12_in eh14) (by decide) rfl (by simp [Value.category]) rfl ?_
          refine j_if_eq (pc := 56) (tgt := 68) dX12_load_56 (by decide) (fun c16 => ?_) (fun c16 => ?_)
          · rw [if_pos c16] at H
            refine j_iconst (pc := 68) (v := -1) dX12_load_68 (by decide) ?_
            exact j_ireturn (pc := 69) dX12_load_69 rfl (ri_1 H) (ri_2 H)
          · rw [if_neg c16] at H
            refine j_aload_n (pc := 59) dX12_load_59 rfl ?_
            refine j_getI (pc := 60) dX12_load_60 flX12_139 rfl ?_
            refine j_bipush (pc := 63) (v := 15) dX12_load_63 (by decide) ?_
            refine j_icmp_ne (pc := 65) (tgt := 70) dX12_load_65 (by decide) (fun c17 => ?_) (fun c17 => ?_)
            · rw [if_neg c17] at H
              refine j_aload_n (pc := 70) dX12_load_70 rfl ?_
              refine j_getR (pc := 71) (b := 1) dX12_load_71 flX12_9 rfl ?_
              refine j_aload_n (pc := 74) dX12_load_74 rfl ?_
              refine j_getI (pc := 75) dX12_load_75 flX12_139 rfl ?_
              refine j_iload_n (pc := 78) dX12_load_78 rfl ?_
              obtain ⟨b19, H⟩ := ck_x H
              obtain ⟨h18, eh18, H⟩ := nm_x H
              refine j_iastore (pc := 79) dX12_load_79 rfl b19 rfl h18 eh18 ?_
              refine j_aload_n (pc := 80) dX12_load_80 rfl ?_
              refine j_getR (pc := 81) (b := 2) dX12_load_81 flX12_13 rfl ?_
              refine j_aload_n (pc := 84) dX12_load_84 rfl ?_
              refine j_getI (pc := 85) dX12_load_85 flX12_139 rfl ?_
              refine j_iload_n (pc := 88) dX12_load_88 rfl ?_
              obtain ⟨b21, H⟩ := ck_x H
              obtain ⟨h20, eh20, H⟩ := nm_x H
              refine j_iastore (pc := 89) dX12_load_89 rfl b21 rfl h20 eh20 ?_
              refine j_aload_n (pc := 90) dX12_load_90 rfl ?_
              refine j_getR (pc := 91) (b := 3) dX12_load_91 flX12_16 rfl ?_
              refine j_aload_n (pc := 94) dX12_load_94 rfl ?_
              refine j_getI (pc := 95) dX12_load_95 flX12_139 rfl ?_
              refine j_iload_n (pc := 98) dX12_load_98 rfl ?_
              obtain ⟨b23, H⟩ := ck_x H
              obtain ⟨h22, eh22, H⟩ := nm_x H
              refine j_iastore (pc := 99) dX12_load_99 rfl b23 rfl h22 eh22 ?_
              refine j_aload_n (pc := 100) dX12_load_100 rfl ?_
              refine j_getR (pc := 101) (b := 4) dX12_load_101 flX12_19 rfl ?_
              refine j_aload_n (pc := 104) dX12_load_104 rfl ?_
              refine j_getI (pc := 105) dX12_load_105 flX12_139 rfl ?_
              refine j_iload (pc := 108) dX12_load_108 rfl ?_
              obtain ⟨b25, H⟩ := ck_x H
              obtain ⟨h24, eh24, H⟩ := nm_x H
              refine j_iastore (pc := 110) dX12_load_110 rfl b25 rfl h24 eh24 ?_
              refine j_aload_n (pc := 111) dX12_load_111 rfl ?_
              refine j_getR (pc := 112) (b := 5) dX12_load_112 flX12_22 rfl ?_
              refine j_aload_n (pc := 115) dX12_load_115 rfl ?_
              refine j_getI (pc := 116) dX12_load_116 flX12_139 rfl ?_
              refine j_iload (pc := 119) dX12_load_119 rfl ?_
              obtain ⟨b27, H⟩ := ck_x H
              obtain ⟨h26, eh26, H⟩ := nm_x H
              refine j_iastore (pc := 121) dX12_load_121 rfl b27 rfl h26 eh26 ?_
              refine j_aload_n (pc := 122) dX12_load_122 rfl ?_
              refine j_getR (pc := 123) (b := 32) dX12_load_123 flX12_112 rfl ?_
              refine j_aload_n (pc := 126) dX12_load_126 rfl ?_
              refine j_getI (pc := 127) dX12_load_127 flX12_139 rfl ?_
              refine j_iconst (pc := 130) (v := -1) dX12_load_130 (by decide) ?_
              obtain ⟨b29, H⟩ := ck_x H
              obtain ⟨h28, eh28, H⟩ := nm_x H
              refine j_iastore (pc := 131) dX12_load_131 rfl b29 rfl h28 eh28 ?_
              refine j_aload_n (pc := 132) dX12_load_132 rfl ?_
              refine j_dup (pc := 133) dX12_load_133 rfl ?_
              refine j_getI (pc := 134) dX12_load_134 flX12_139 rfl ?_
              refine j_iconst (pc := 137) (v := 1) dX12_load_137 (by decide) ?_
              refine j_iadd (pc := 138) dX12_load_138 ?_
              obtain ⟨h30, eh30, H⟩ := nm_x H
              refine j_putI (pc := 139) dX12_load_139 fpX12_139 rfl h30 eh30 ?_
              refine j_aload_n (pc := 142) dX12_load_142 rfl ?_
              refine j_getI (pc := 143) dX12_load_143 flX12_139 rfl ?_
              refine j_iconst (pc := 146) (v := 1) dX12_load_146 (by decide) ?_
              refine j_isub (pc := 147) dX12_load_147 ?_
              exact j_ireturn (pc := 148) dX12_load_148 rfl (ri_1 H) (ri_2 H)
            · rw [if_pos c17] at H
              refine j_iconst (pc := 68) (v := -1) dX12_load_68 (by decide) ?_
              exact j_ireturn (pc := 69) dX12_load_69 rfl (ri_1 H) (ri_2 H)

noncomputable def fX12_fill (p1 : Int32) (p2 : Int32) (h : HS) : Option (Int32 × HS) := nm (pI h 0 22 (0 : Int32)) (fun h1 => bd (fX12_isLoad p1 h1) (fun r3 h2 => if r3 = 0 then (some ((-1 : Int32), h2)) else (ck (inb p1 15) (bd (fX12_in p2 (0 : Int32) ((gI h2 4 p1.toNatClampNeg)) h2) (fun r7 h6 => if r7 = 0 then (some ((-1 : Int32), h6)) else (ck (inb p1 15) (nm ((gI h6 5 p1.toNatClampNeg)) (fun v3_10 => ck (inb p1 15) (nm (pI h6 5 p1.toNatClampNeg p2) (fun h11 => some (v3_10, h11)))))))))))
set_option maxRecDepth 100000 in
theorem tX12_fill {p1 : Int32} {p2 : Int32} {r : Int32} {h h0 : HS} (H : fX12_fill p1 p2 h = some (r, h0)) : Cn skM yX12_fill cX12_fill 4 (some .int) 2 [.ref 0, .int p1, .int p2] h (some (.int r)) h0 := by
  refine Cn_of (L := [some (.ref 0), some (.int p1), some (.int p2), none]) (by decide +kernel) (by simp [lg_sl, Value.category]) (fun ad => by simp [lg_sl, tv, Value.category]) (⟨rfl, ⟨rfl, ⟨rfl, trivial⟩⟩⟩) ?_
  unfold fX12_fill at H
  refine j_aload_n (pc := 0) dX12_fill_0 rfl ?_
  refine j_iconst (pc := 1) (v := 0) dX12_fill_1 (by decide) ?_
  obtain ⟨h1, eh1, H⟩ := nm_x H
  refine j_putI (pc := 2) dX12_fill_2 fpX12_133 rfl h1 eh1 ?_
  refine j_aload_n (pc := 5) dX12_fill_5 rfl ?_
  refine j_iload_n (pc := 6) dX12_fill_6 rfl ?_
  obtain ⟨r3, h2, eh2, H⟩ := bd_x H
  refine j_callV (pc := 7) dX12_fill_7 mlX12_146 wyX12_isLoad (tX12_isLoad eh2) (by decide) rfl rfl rfl rfl (by simp [Value.category]) rfl ?_
  refine j_if_eq (pc := 10) (tgt := 27) dX12_fill_10 (by decide) (fun c4 => ?_) (fun c4 => ?_)
  · rw [if_pos c4] at H
    refine j_iconst (pc := 27) (v := -1) dX12_fill_27 (by decide) ?_
    exact j_ireturn (pc := 28) dX12_fill_28 rfl (ri_1 H) (ri_2 H)
  · rw [if_neg c4] at H
    refine j_iload_n (pc := 13) dX12_fill_13 rfl ?_
    refine j_iconst (pc := 14) (v := 0) dX12_fill_14 (by decide) ?_
    refine j_aload_n (pc := 15) dX12_fill_15 rfl ?_
    refine j_getR (pc := 16) (b := 4) dX12_fill_16 flX12_19 rfl ?_
    refine j_iload_n (pc := 19) dX12_fill_19 rfl ?_
    obtain ⟨b5, H⟩ := ck_x H
    refine j_iaload (pc := 20) dX12_fill_20 rfl b5 rfl ?_
    obtain ⟨r7, h6, eh6, H⟩ := bd_x H
    refine j_callS (pc := 21) dX12_fill_21 mlX12_142 wyX12_in (tX12_in eh6) (by decide) rfl (by simp [Value.category]) rfl ?_
    refine j_if_ne (pc := 24) (tgt := 29) dX12_fill_24 (by decide) (fun c8 => ?_) (fun c8 => ?_)
    · rw [if_neg c8] at H
      refine j_aload_n (pc := 29) dX12_fill_29 rfl ?_
      refine j_getR (pc := 30) (b := 5) dX12_fill_30 flX12_22 rfl ?_
      refine j_iload_n (pc := 33) dX12_fill_33 rfl ?_
      obtain ⟨b9, H⟩ := ck_x H
      refine j_iaload (pc := 34) dX12_fill_34 rfl b9 rfl ?_
      obtain ⟨v3_10, ev3_10, H⟩ := nm_x H
      refine j_topi ev3_10 ?_
      refine j_istore_n (pc := 35) (L' := [some (.ref 0), some (.int p1), some (.int p2), some (.int v3_10)]) dX12_fill_35 (by decide) rfl ?_
      refine j_aload_n (pc := 36) dX12_fill_36 rfl ?_
      refine j_getR (pc := 37) (b := 5) dX12_fill_37 flX12_22 rfl ?_
      refine j_iload_n (pc := 40) dX12_fill_40 rfl ?_
      refine j_iload_n (pc := 41) dX12_fill_41 rfl ?_
      obtain ⟨b12, H⟩ := ck_x H
      obtain ⟨h11, eh11, H⟩ := nm_x H
      refine j_iastore (pc := 42) dX12_fill_42 rfl b12 rfl h11 eh11 ?_
      refine j_iload_n (pc := 43) dX12_fill_43 rfl ?_
      exact j_ireturn (pc := 44) dX12_fill_44 rfl (ri_1 H) (ri_2 H)
    · rw [if_pos c8] at H
      refine j_iconst (pc := 27) (v := -1) dX12_fill_27 (by decide) ?_
      exact j_ireturn (pc := 28) dX12_fill_28 rfl (ri_1 H) (ri_2 H)

noncomputable def fX12_sheet_120 (k82 : Int32 → Int32 → Int32 → Int32 → Int32 → Int32 → HS → Option (Int32 × HS)) (v1 : Int32) (v2 : Int32) (v4 : Int32) (v5 : Int32) (v6 : Int32) (v7 : Int32) (s0 : Int32) (h : HS) : Option (Int32 × HS) := ck (inb v7 15) (ck (inb v7 15) (nm (pI h 5 v7.toNatClampNeg (imax (0 : Int32) (imin (gI h 4 v7.toNatClampNeg) s0))) (fun h20 => nm ((v6 + v4)) (fun v6_22 => nm (v5 + (1 : Int32)) (fun v5_23 => nm (v7 + (1 : Int32)) (fun v7_24 => k82 v1 v2 v4 v5_23 v6_22 v7_24 h20))))))
set_option maxRecDepth 100000 in
theorem jX12_sheet_120 {r : Int32} {h0 : HS} (k82 : Int32 → Int32 → Int32 → Int32 → Int32 → Int32 → HS → Option (Int32 × HS)) (hk82 : ∀ (v1 : Int32) (v2 : Int32) (v4 : Int32) (v5 : Int32) (v6 : Int32) (v7 : Int32) (h : HS), k82 v1 v2 v4 v5 v6 v7 h = some (r, h0) → Jx skM RX12 cX12_sheet 9 (some .int) 1 (some (.int r)) h0 82 [some (.ref 0), some (.int v1), some (.int v2), none, some (.int v4), some (.int v5), some (.int v6), some (.int v7), none] [] h) (v1 : Int32) (v2 : Int32) (v4 : Int32) (v5 : Int32) (v6 : Int32) (v7 : Int32) (s0 : Int32) (h : HS) (H : fX12_sheet_120 k82 v1 v2 v4 v5 v6 v7 s0 h = some (r, h0)) : Jx skM RX12 cX12_sheet 9 (some .int) 1 (some (.int r)) h0 120 [some (.ref 0), some (.int v1), some (.int v2), none, some (.int v4), some (.int v5), some (.int v6), some (.int v7), none] [.int s0] h := by
  unfold fX12_sheet_120 at H
  refine j_istore (pc := 120) (L' := [some (.ref 0), some (.int v1), some (.int v2), none, some (.int v4), some (.int v5), some (.int v6), some (.int v7), some (.int s0)]) dX12_sheet_120 (by decide) rfl ?_
  refine j_aload_n (pc := 122) dX12_sheet_122 rfl ?_
  refine j_getR (pc := 123) (b := 5) dX12_sheet_123 flX12_22 rfl ?_
  refine j_iload (pc := 126) dX12_sheet_126 rfl ?_
  refine j_iconst (pc := 128) (v := 0) dX12_sheet_128 (by decide) ?_
  refine j_aload_n (pc := 129) dX12_sheet_129 rfl ?_
  refine j_getR (pc := 130) (b := 4) dX12_sheet_130 flX12_19 rfl ?_
  refine j_iload (pc := 133) dX12_sheet_133 rfl ?_
  obtain ⟨b19, H⟩ := ck_x H
  refine j_iaload (pc := 135) dX12_sheet_135 rfl b19 rfl ?_
  refine j_iload (pc := 136) dX12_sheet_136 rfl ?_
  refine j_mmin (pc := 138) dX12_sheet_138 wmX12_153 (by simp [Value.category]) ?_
  refine j_mmax (pc := 141) dX12_sheet_141 wmX12_159 (by simp [Value.category]) ?_
  obtain ⟨b21, H⟩ := ck_x H
  obtain ⟨h20, eh20, H⟩ := nm_x H
  refine j_iastore (pc := 144) dX12_sheet_144 rfl b21 rfl h20 eh20 ?_
  refine j_iload (pc := 145) dX12_sheet_145 rfl ?_
  refine j_iload (pc := 147) dX12_sheet_147 rfl ?_
  refine j_iadd (pc := 149) dX12_sheet_149 ?_
  obtain ⟨v6_22, ev6_22, H⟩ := nm_x H
  refine j_topi ev6_22 ?_
  refine j_istore (pc := 150) (L' := [some (.ref 0), some (.int v1), some (.int v2), none, some (.int v4), some (.int v5), some (.int v6_22), some (.int v7), some (.int s0)]) dX12_sheet_150 (by decide) rfl ?_
  obtain ⟨v5_23, ev5_23, H⟩ := nm_x H
  refine j_iinc (pc := 152) (L' := [some (.ref 0), some (.int v1), some (.int v2), none, some (.int v4), some (.int v5_23), some (.int v6_22), some (.int v7), some (.int s0)]) (w := 1) dX12_sheet_152 rfl (by decide) (by decide) v5_23 ev5_23 rfl ?_
  obtain ⟨v7_24, ev7_24, H⟩ := nm_x H
  refine j_iinc (pc := 155) (L' := [some (.ref 0), some (.int v1), some (.int v2), none, some (.int v4), some (.int v5_23), some (.int v6_22), some (.int v7_24), some (.int s0)]) (w := 1) dX12_sheet_155 rfl (by decide) (by decide) v7_24 ev7_24 rfl ?_
  refine j_goto (pc := 158) (tgt := 82) dX12_sheet_158 (by decide) ?_
  refine Jx.sub (L' := [some (.ref 0), some (.int v1), some (.int v2), none, some (.int v4), some (.int v5_23), some (.int v6_22), some (.int v7_24), none]) (⟨rfl, ⟨rfl, ⟨rfl, ⟨rfl, ⟨rfl, ⟨rfl, ⟨rfl, trivial⟩⟩⟩⟩⟩⟩⟩) ?_
  exact hk82 v1 v2 v4 v5_23 v6_22 v7_24 h20 H
noncomputable def fX12_sheet_82 : Nat → Int32 → Int32 → Int32 → Int32 → Int32 → Int32 → HS → Option (Int32 × HS)
  | 0, _, _, _, _, _, _, _ => none
  | n + 1, v1, v2, v4, v5, v6, v7, h => if (gI h 0 0) ≤ v7 then (some (v5, h)) else (if v2 ≤ v7 then (some (v5, h)) else (if v1 = 0 then (fX12_sheet_120 (fX12_sheet_82 n) v1 v2 v4 v5 v6 v7 ((v6.toInt8.toInt32)) h) else (if v1 = (1 : Int32) then (fX12_sheet_120 (fX12_sheet_82 n) v1 v2 v4 v5 v6 v7 ((v6.toInt16.toInt32)) h) else (fX12_sheet_120 (fX12_sheet_82 n) v1 v2 v4 v5 v6 v7 v6 h))))
set_option maxRecDepth 100000 in
theorem jX12_sheet_82 {r : Int32} {h0 : HS} : ∀ (n : Nat) (v1 : Int32) (v2 : Int32) (v4 : Int32) (v5 : Int32) (v6 : Int32) (v7 : Int32) (h : HS), fX12_sheet_82 n v1 v2 v4 v5 v6 v7 h = some (r, h0) → Jx skM RX12 cX12_sheet 9 (some .int) 1 (some (.int r)) h0 82 [some (.ref 0), some (.int v1), some (.int v2), none, some (.int v4), some (.int v5), some (.int v6), some (.int v7), none] [] h := by
  intro n
  induction n with
  | zero => intro v1 v2 v4 v5 v6 v7  h H; cases H
  | succ n ih =>
    intro v1 v2 v4 v5 v6 v7  h H
    rw [fX12_sheet_82] at H
    refine j_iload (pc := 82) dX12_sheet_82 rfl ?_
    refine j_aload_n (pc := 84) dX12_sheet_84 rfl ?_
    refine j_getI (pc := 85) dX12_sheet_85 flX12_139 rfl ?_
    refine j_icmp_ge (pc := 88) (tgt := 161) dX12_sheet_88 (by decide) (fun c8 => ?_) (fun c8 => ?_)
    · rw [if_pos c8] at H
      refine j_iload (pc := 161) dX12_sheet_161 rfl ?_
      exact j_ireturn (pc := 163) dX12_sheet_163 rfl (ri_1 H) (ri_2 H)
    · rw [if_neg c8] at H
      refine j_iload (pc := 91) dX12_sheet_91 rfl ?_
      refine j_iload_n (pc := 93) dX12_sheet_93 rfl ?_
      refine j_icmp_ge (pc := 94) (tgt := 161) dX12_sheet_94 (by decide) (fun c9 => ?_) (fun c9 => ?_)
      · rw [if_pos c9] at H
        refine j_iload (pc := 161) dX12_sheet_161 rfl ?_
        exact j_ireturn (pc := 163) dX12_sheet_163 rfl (ri_1 H) (ri_2 H)
      · rw [if_neg c9] at H
        refine j_iload_n (pc := 97) dX12_sheet_97 rfl ?_
        refine j_if_ne (pc := 98) (tgt := 107) dX12_sheet_98 (by decide) (fun c10 => ?_) (fun c10 => ?_)
        · rw [if_neg c10] at H
          refine j_iload_n (pc := 107) dX12_sheet_107 rfl ?_
          refine j_iconst (pc := 108) (v := 1) dX12_sheet_108 (by decide) ?_
          refine j_icmp_ne (pc := 109) (tgt := 118) dX12_sheet_109 (by decide) (fun c11 => ?_) (fun c11 => ?_)
          · rw [if_neg c11] at H
            refine j_iload (pc := 118) dX12_sheet_118 rfl ?_
            refine Jx.sub (L' := [some (.ref 0), some (.int v1), some (.int v2), none, some (.int v4), some (.int v5), some (.int v6), some (.int v7), none]) (⟨rfl, ⟨rfl, ⟨rfl, ⟨rfl, ⟨rfl, ⟨rfl, ⟨rfl, trivial⟩⟩⟩⟩⟩⟩⟩) ?_
            exact jX12_sheet_120 _ ih v1 v2 v4 v5 v6 v7 v6 h H
          · rw [if_pos c11] at H
            refine j_iload (pc := 112) dX12_sheet_112 rfl ?_
            refine j_i2s (pc := 114) dX12_sheet_114 ?_
            refine j_goto (pc := 115) (tgt := 120) dX12_sheet_115 (by decide) ?_
            refine Jx.sub (L' := [some (.ref 0), some (.int v1), some (.int v2), none, some (.int v4), some (.int v5), some (.int v6), some (.int v7), none]) (⟨rfl, ⟨rfl, ⟨rfl, ⟨rfl, ⟨rfl, ⟨rfl, ⟨rfl, trivial⟩⟩⟩⟩⟩⟩⟩) ?_
            exact jX12_sheet_120 _ ih v1 v2 v4 v5 v6 v7 ((v6.toInt16.toInt32)) h H
        · rw [if_pos c10] at H
          refine j_iload (pc := 101) dX12_sheet_101 rfl ?_
          refine j_i2b (pc := 103) dX12_sheet_103 ?_
          refine j_goto (pc := 104) (tgt := 120) dX12_sheet_104 (by decide) ?_
          refine Jx.sub (L' := [some (.ref 0), some (.int v1), some (.int v2), none, some (.int v4), some (.int v5), some (.int v6), some (.int v7), none]) (⟨rfl, ⟨rfl, ⟨rfl, ⟨rfl, ⟨rfl, ⟨rfl, ⟨rfl, trivial⟩⟩⟩⟩⟩⟩⟩) ?_
          exact jX12_sheet_120 _ ih v1 v2 v4 v5 v6 v7 ((v6.toInt8.toInt32)) h H
noncomputable def fX12_sheet_30 : Nat → Int32 → HS → Option (Int32 × HS)
  | 0, _, _ => none
  | n + 1, v5, h => if (gI h 0 0) ≤ v5 then (some ((-3 : Int32), h)) else (ck (inb v5 15) (if (gI h 1 v5.toNatClampNeg) = 0 then (ck (inb v5 15) (nm (pI h 5 v5.toNatClampNeg (0 : Int32)) (fun h16 => nm (v5 + (1 : Int32)) (fun v5_18 => fX12_sheet_30 n v5_18 h16)))) else (nm (v5 + (1 : Int32)) (fun v5_15 => fX12_sheet_30 n v5_15 h))))
set_option maxRecDepth 100000 in
theorem jX12_sheet_30 {r : Int32} {h0 : HS} : ∀ (n : Nat) (v5 : Int32) (h : HS), fX12_sheet_30 n v5 h = some (r, h0) → Jx skM RX12 cX12_sheet 9 (some .int) 1 (some (.int r)) h0 30 [some (.ref 0), none, none, none, none, some (.int v5), none, none, none] [] h := by
  intro n
  induction n with
  | zero => intro v5  h H; cases H
  | succ n ih =>
    intro v5  h H
    rw [fX12_sheet_30] at H
    refine j_iload (pc := 30) dX12_sheet_30 rfl ?_
    refine j_aload_n (pc := 32) dX12_sheet_32 rfl ?_
    refine j_getI (pc := 33) dX12_sheet_33 flX12_139 rfl ?_
    refine j_icmp_ge (pc := 36) (tgt := 63) dX12_sheet_36 (by decide) (fun c12 => ?_) (fun c12 => ?_)
    · rw [if_pos c12] at H
      refine j_bipush (pc := 63) (v := -3) dX12_sheet_63 (by decide) ?_
      exact j_ireturn (pc := 65) dX12_sheet_65 rfl (ri_1 H) (ri_2 H)
    · rw [if_neg c12] at H
      refine j_aload_n (pc := 39) dX12_sheet_39 rfl ?_
      refine j_getR (pc := 40) (b := 1) dX12_sheet_40 flX12_9 rfl ?_
      refine j_iload (pc := 43) dX12_sheet_43 rfl ?_
      obtain ⟨b13, H⟩ := ck_x H
      refine j_iaload (pc := 45) dX12_sheet_45 rfl b13 rfl ?_
      refine j_if_ne (pc := 46) (tgt := 57) dX12_sheet_46 (by decide) (fun c14 => ?_) (fun c14 => ?_)
      · rw [if_neg c14] at H
        obtain ⟨v5_15, ev5_15, H⟩ := nm_x H
        refine j_iinc (pc := 57) (L' := [some (.ref 0), none, none, none, none, some (.int v5_15), none, none, none]) (w := 1) dX12_sheet_57 rfl (by decide) (by decide) v5_15 ev5_15 rfl ?_
        refine j_goto (pc := 60) (tgt := 30) dX12_sheet_60 (by decide) ?_
        refine Jx.sub (L' := [some (.ref 0), none, none, none, none, some (.int v5_15), none, none, none]) (⟨rfl, ⟨rfl, trivial⟩⟩) ?_
        exact ih v5_15 h H
      · rw [if_pos c14] at H
        refine j_aload_n (pc := 49) dX12_sheet_49 rfl ?_
        refine j_getR (pc := 50) (b := 5) dX12_sheet_50 flX12_22 rfl ?_
        refine j_iload (pc := 53) dX12_sheet_53 rfl ?_
        refine j_iconst (pc := 55) (v := 0) dX12_sheet_55 (by decide) ?_
        obtain ⟨b17, H⟩ := ck_x H
        obtain ⟨h16, eh16, H⟩ := nm_x H
        refine j_iastore (pc := 56) dX12_sheet_56 rfl b17 rfl h16 eh16 ?_
        obtain ⟨v5_18, ev5_18, H⟩ := nm_x H
        refine j_iinc (pc := 57) (L' := [some (.ref 0), none, none, none, none, some (.int v5_18), none, none, none]) (w := 1) dX12_sheet_57 rfl (by decide) (by decide) v5_18 ev5_18 rfl ?_
        refine j_goto (pc := 60) (tgt := 30) dX12_sheet_60 (by decide) ?_
        refine Jx.sub (L' := [some (.ref 0), none, none, none, none, some (.int v5_18), none, none, none]) (⟨rfl, ⟨rfl, trivial⟩⟩) ?_
        exact ih v5_18 h16 H
noncomputable def fX12_sheet (p1 : Int32) (p2 : Int32) (p3 : Int32) (p4 : Int32) (h : HS) : Option (Int32 × HS) := nm (pI h 0 22 (0 : Int32)) (fun h1 => bd (fX12_in p1 (0 : Int32) (3 : Int32) h1) (fun r3 h2 => if r3 = 0 then (some ((-1 : Int32), h2)) else (if p2 ≤ (15 : Int32) then (if p1 = (3 : Int32) then (fX12_sheet_30 FU (0 : Int32) h2) else (if 0 ≤ p2 then (fX12_sheet_82 FU p1 p2 p4 (0 : Int32) p3 (0 : Int32) h2) else (some ((-2 : Int32), h2)))) else (some ((-1 : Int32), h2)))))
set_option maxRecDepth 100000 in
theorem tX12_sheet {p1 : Int32} {p2 : Int32} {p3 : Int32} {p4 : Int32} {r : Int32} {h h0 : HS} (H : fX12_sheet p1 p2 p3 p4 h = some (r, h0)) : Cn skM yX12_sheet cX12_sheet 9 (some .int) 1 [.ref 0, .int p1, .int p2, .int p3, .int p4] h (some (.int r)) h0 := by
  refine Cn_of (L := [some (.ref 0), some (.int p1), some (.int p2), some (.int p3), some (.int p4), none, none, none, none]) (by decide +kernel) (by simp [lg_sl, Value.category]) (fun ad => by simp [lg_sl, tv, Value.category]) (⟨rfl, ⟨rfl, ⟨rfl, ⟨rfl, ⟨rfl, trivial⟩⟩⟩⟩⟩) ?_
  unfold fX12_sheet at H
  refine j_aload_n (pc := 0) dX12_sheet_0 rfl ?_
  refine j_iconst (pc := 1) (v := 0) dX12_sheet_1 (by decide) ?_
  obtain ⟨h1, eh1, H⟩ := nm_x H
  refine j_putI (pc := 2) dX12_sheet_2 fpX12_133 rfl h1 eh1 ?_
  refine j_iload_n (pc := 5) dX12_sheet_5 rfl ?_
  refine j_iconst (pc := 6) (v := 0) dX12_sheet_6 (by decide) ?_
  refine j_iconst (pc := 7) (v := 3) dX12_sheet_7 (by decide) ?_
  obtain ⟨r3, h2, eh2, H⟩ := bd_x H
  refine j_callS (pc := 8) dX12_sheet_8 mlX12_142 wyX12_in (tX12_in eh2) (by decide) rfl (by simp [Value.category]) rfl ?_
  refine j_if_eq (pc := 11) (tgt := 20) dX12_sheet_11 (by decide) (fun c4 => ?_) (fun c4 => ?_)
  · rw [if_pos c4] at H
    refine j_iconst (pc := 20) (v := -1) dX12_sheet_20 (by decide) ?_
    exact j_ireturn (pc := 21) dX12_sheet_21 rfl (ri_1 H) (ri_2 H)
  · rw [if_neg c4] at H
    refine j_iload_n (pc := 14) dX12_sheet_14 rfl ?_
    refine j_bipush (pc := 15) (v := 15) dX12_sheet_15 (by decide) ?_
    refine j_icmp_le (pc := 17) (tgt := 22) dX12_sheet_17 (by decide) (fun c5 => ?_) (fun c5 => ?_)
    · rw [if_pos c5] at H
      refine j_iload_n (pc := 22) dX12_sheet_22 rfl ?_
      refine j_iconst (pc := 23) (v := 3) dX12_sheet_23 (by decide) ?_
      refine j_icmp_ne (pc := 24) (tgt := 66) dX12_sheet_24 (by decide) (fun c6 => ?_) (fun c6 => ?_)
      · rw [if_neg c6] at H
        refine j_iload_n (pc := 66) dX12_sheet_66 rfl ?_
        refine j_if_ge (pc := 67) (tgt := 73) dX12_sheet_67 (by decide) (fun c7 => ?_) (fun c7 => ?_)
        · rw [if_pos c7] at H
          refine j_iconst (pc := 73) (v := 0) dX12_sheet_73 (by decide) ?_
          refine j_istore (pc := 74) (L' := [some (.ref 0), some (.int p1), some (.int p2), some (.int p3), some (.int p4), some (.int (0 : Int32)), none, none, none]) dX12_sheet_74 (by decide) rfl ?_
          refine j_iload_n (pc := 76) dX12_sheet_76 rfl ?_
          refine j_istore (pc := 77) (L' := [some (.ref 0), some (.int p1), some (.int p2), some (.int p3), some (.int p4), some (.int (0 : Int32)), some (.int p3), none, none]) dX12_sheet_77 (by decide) rfl ?_
          refine j_iconst (pc := 79) (v := 0) dX12_sheet_79 (by decide) ?_
          refine j_istore (pc := 80) (L' := [some (.ref 0), some (.int p1), some (.int p2), some (.int p3), some (.int p4), some (.int (0 : Int32)), some (.int p3), some (.int (0 : Int32)), none]) dX12_sheet_80 (by decide) rfl ?_
          refine Jx.sub (L' := [some (.ref 0), some (.int p1), some (.int p2), none, some (.int p4), some (.int (0 : Int32)), some (.int p3), some (.int (0 : Int32)), none]) (⟨rfl, ⟨rfl, ⟨rfl, ⟨rfl, ⟨rfl, ⟨rfl, ⟨rfl, trivial⟩⟩⟩⟩⟩⟩⟩) ?_
          exact jX12_sheet_82 FU p1 p2 p4 (0 : Int32) p3 (0 : Int32) h2 H
        · rw [if_neg c7] at H
          refine j_bipush (pc := 70) (v := -2) dX12_sheet_70 (by decide) ?_
          exact j_ireturn (pc := 72) dX12_sheet_72 rfl (ri_1 H) (ri_2 H)
      · rw [if_pos c6] at H
        refine j_iconst (pc := 27) (v := 0) dX12_sheet_27 (by decide) ?_
        refine j_istore (pc := 28) (L' := [some (.ref 0), some (.int p1), some (.int p2), some (.int p3), some (.int p4), some (.int (0 : Int32)), none, none, none]) dX12_sheet_28 (by decide) rfl ?_
        refine Jx.sub (L' := [some (.ref 0), none, none, none, none, some (.int (0 : Int32)), none, none, none]) (⟨rfl, ⟨rfl, trivial⟩⟩) ?_
        exact jX12_sheet_30 FU (0 : Int32) h2 H
    · rw [if_neg c5] at H
      refine j_iconst (pc := 20) (v := -1) dX12_sheet_20 (by decide) ?_
      exact j_ireturn (pc := 21) dX12_sheet_21 rfl (ri_1 H) (ri_2 H)

noncomputable def fX12_base (p1 : Int32) (p2 : Int32) (p3 : Int32) (h : HS) : Option (Int32 × HS) := nm (pI h 0 22 (0 : Int32)) (fun h1 => bd (fX12_in p1 (0 : Int32) (99999 : Int32) h1) (fun r3 h2 => if r3 = 0 then (some ((0 : Int32), h2)) else (bd (fX12_in p2 (-999999 : Int32) (999999 : Int32) h2) (fun r6 h5 => if r6 = 0 then (some ((0 : Int32), h5)) else (bd (fX12_in p3 (-99999 : Int32) (99999 : Int32) h5) (fun r9 h8 => if r9 = 0 then (some ((0 : Int32), h8)) else (nm (pI h8 0 6 p1) (fun h11 => nm (pI h11 0 7 p2) (fun h12 => nm (pI h12 0 8 p3) (fun h13 => some ((1 : Int32), h13)))))))))))
set_option maxRecDepth 100000 in
theorem tX12_base {p1 : Int32} {p2 : Int32} {p3 : Int32} {r : Int32} {h h0 : HS} (H : fX12_base p1 p2 p3 h = some (r, h0)) : Cn skM yX12_base cX12_base 4 (some .boolean) 1 [.ref 0, .int p1, .int p2, .int p3] h (some (.int r)) h0 := by
  refine Cn_of (L := [some (.ref 0), some (.int p1), some (.int p2), some (.int p3)]) (by decide +kernel) (by simp [lg_sl, Value.category]) (fun ad => by simp [lg_sl, tv, Value.category]) (⟨rfl, ⟨rfl, ⟨rfl, ⟨rfl, trivial⟩⟩⟩⟩) ?_
  unfold fX12_base at H
  refine j_aload_n (pc := 0) dX12_base_0 rfl ?_
  refine j_iconst (pc := 1) (v := 0) dX12_base_1 (by decide) ?_
  obtain ⟨h1, eh1, H⟩ := nm_x H
  refine j_putI (pc := 2) dX12_base_2 fpX12_133 rfl h1 eh1 ?_
  refine j_iload_n (pc := 5) dX12_base_5 rfl ?_
  refine j_iconst (pc := 6) (v := 0) dX12_base_6 (by decide) ?_
  refine j_ldc (pc := 7) dX12_base_7 wkX12_162 ?_
  obtain ⟨r3, h2, eh2, H⟩ := bd_x H
  refine j_callS (pc := 9) dX12_base_9 mlX12_142 wyX12_in (tX12_in eh2) (by decide) rfl (by simp [Value.category]) rfl ?_
  refine j_if_eq (pc := 12) (tgt := 37) dX12_base_12 (by decide) (fun c4 => ?_) (fun c4 => ?_)
  · rw [if_pos c4] at H
    refine j_iconst (pc := 37) (v := 0) dX12_base_37 (by decide) ?_
    exact j_zreturn (pc := 38) dX12_base_38 rfl (rz0 H) (ri_2 H)
  · rw [if_neg c4] at H
    refine j_iload_n (pc := 15) dX12_base_15 rfl ?_
    refine j_ldc (pc := 16) dX12_base_16 wkX12_163 ?_
    refine j_ldc (pc := 18) dX12_base_18 wkX12_164 ?_
    obtain ⟨r6, h5, eh5, H⟩ := bd_x H
    refine j_callS (pc := 20) dX12_base_20 mlX12_142 wyX12_in (tX12_in eh5) (by decide) rfl (by simp [Value.category]) rfl ?_
    refine j_if_eq (pc := 23) (tgt := 37) dX12_base_23 (by decide) (fun c7 => ?_) (fun c7 => ?_)
    · rw [if_pos c7] at H
      refine j_iconst (pc := 37) (v := 0) dX12_base_37 (by decide) ?_
      exact j_zreturn (pc := 38) dX12_base_38 rfl (rz0 H) (ri_2 H)
    · rw [if_neg c7] at H
      refine j_iload_n (pc := 26) dX12_base_26 rfl ?_
      refine j_ldc (pc := 27) dX12_base_27 wkX12_165 ?_
      refine j_ldc (pc := 29) dX12_base_29 wkX12_162 ?_
      obtain ⟨r9, h8, eh8, H⟩ := bd_x H
      refine j_callS (pc := 31) dX12_base_31 mlX12_142 wyX12_in (tX12_in eh8) (by decide) rfl (by simp [Value.category]) rfl ?_
      refine j_if_ne (pc := 34) (tgt := 39) dX12_base_34 (by decide) (fun c10 => ?_) (fun c10 => ?_)
      · rw [if_neg c10] at H
        refine j_aload_n (pc := 39) dX12_base_39 rfl ?_
        refine j_iload_n (pc := 40) dX12_base_40 rfl ?_
        obtain ⟨h11, eh11, H⟩ := nm_x H
        refine j_putI (pc := 41) dX12_base_41 fpX12_166 rfl h11 eh11 ?_
        refine j_aload_n (pc := 44) dX12_base_44 rfl ?_
        refine j_iload_n (pc := 45) dX12_base_45 rfl ?_
        obtain ⟨h12, eh12, H⟩ := nm_x H
        refine j_putI (pc := 46) dX12_base_46 fpX12_169 rfl h12 eh12 ?_
        refine j_aload_n (pc := 49) dX12_base_49 rfl ?_
        refine j_iload_n (pc := 50) dX12_base_50 rfl ?_
        obtain ⟨h13, eh13, H⟩ := nm_x H
        refine j_putI (pc := 51) dX12_base_51 fpX12_172 rfl h13 eh13 ?_
        refine j_iconst (pc := 54) (v := 1) dX12_base_54 (by decide) ?_
        exact j_zreturn (pc := 55) dX12_base_55 rfl (rz1 H) (ri_2 H)
      · rw [if_pos c10] at H
        refine j_iconst (pc := 37) (v := 0) dX12_base_37 (by decide) ?_
        exact j_zreturn (pc := 38) dX12_base_38 rfl (rz0 H) (ri_2 H)

noncomputable def fX12_hull (p1 : Int32) (p2 : Int32) (h : HS) : Option (Int32 × HS) := nm (pI h 0 22 (0 : Int32)) (fun h1 => bd (fX12_in p1 (1 : Int32) (99999 : Int32) h1) (fun r3 h2 => if r3 = 0 then (some ((0 : Int32), h2)) else (bd (fX12_in p2 (0 : Int32) (99 : Int32) h2) (fun r6 h5 => if r6 = 0 then (some ((0 : Int32), h5)) else (nm (pI h5 0 9 p1) (fun h8 => nm (pI h8 0 10 p2) (fun h9 => some ((1 : Int32), h9))))))))
set_option maxRecDepth 100000 in
theorem tX12_hull {p1 : Int32} {p2 : Int32} {r : Int32} {h h0 : HS} (H : fX12_hull p1 p2 h = some (r, h0)) : Cn skM yX12_hull cX12_hull 3 (some .boolean) 1 [.ref 0, .int p1, .int p2] h (some (.int r)) h0 := by
  refine Cn_of (L := [some (.ref 0), some (.int p1), some (.int p2)]) (by decide +kernel) (by simp [lg_sl, Value.category]) (fun ad => by simp [lg_sl, tv, Value.category]) (⟨rfl, ⟨rfl, ⟨rfl, trivial⟩⟩⟩) ?_
  unfold fX12_hull at H
  refine j_aload_n (pc := 0) dX12_hull_0 rfl ?_
  refine j_iconst (pc := 1) (v := 0) dX12_hull_1 (by decide) ?_
  obtain ⟨h1, eh1, H⟩ := nm_x H
  refine j_putI (pc := 2) dX12_hull_2 fpX12_133 rfl h1 eh1 ?_
  refine j_iload_n (pc := 5) dX12_hull_5 rfl ?_
  refine j_iconst (pc := 6) (v := 1) dX12_hull_6 (by decide) ?_
  refine j_ldc (pc := 7) dX12_hull_7 wkX12_162 ?_
  obtain ⟨r3, h2, eh2, H⟩ := bd_x H
  refine j_callS (pc := 9) dX12_hull_9 mlX12_142 wyX12_in (tX12_in eh2) (by decide) rfl (by simp [Value.category]) rfl ?_
  refine j_if_eq (pc := 12) (tgt := 25) dX12_hull_12 (by decide) (fun c4 => ?_) (fun c4 => ?_)
  · rw [if_pos c4] at H
    refine j_iconst (pc := 25) (v := 0) dX12_hull_25 (by decide) ?_
    exact j_zreturn (pc := 26) dX12_hull_26 rfl (rz0 H) (ri_2 H)
  · rw [if_neg c4] at H
    refine j_iload_n (pc := 15) dX12_hull_15 rfl ?_
    refine j_iconst (pc := 16) (v := 0) dX12_hull_16 (by decide) ?_
    refine j_bipush (pc := 17) (v := 99) dX12_hull_17 (by decide) ?_
    obtain ⟨r6, h5, eh5, H⟩ := bd_x H
    refine j_callS (pc := 19) dX12_hull_19 mlX12_142 wyX12_in (tX12_in eh5) (by decide) rfl (by simp [Value.category]) rfl ?_
    refine j_if_ne (pc := 22) (tgt := 27) dX12_hull_22 (by decide) (fun c7 => ?_) (fun c7 => ?_)
    · rw [if_neg c7] at H
      refine j_aload_n (pc := 27) dX12_hull_27 rfl ?_
      refine j_iload_n (pc := 28) dX12_hull_28 rfl ?_
      obtain ⟨h8, eh8, H⟩ := nm_x H
      refine j_putI (pc := 29) dX12_hull_29 fpX12_25 rfl h8 eh8 ?_
      refine j_aload_n (pc := 32) dX12_hull_32 rfl ?_
      refine j_iload_n (pc := 33) dX12_hull_33 rfl ?_
      obtain ⟨h9, eh9, H⟩ := nm_x H
      refine j_putI (pc := 34) dX12_hull_34 fpX12_175 rfl h9 eh9 ?_
      refine j_iconst (pc := 37) (v := 1) dX12_hull_37 (by decide) ?_
      exact j_zreturn (pc := 38) dX12_hull_38 rfl (rz1 H) (ri_2 H)
    · rw [if_pos c7] at H
      refine j_iconst (pc := 25) (v := 0) dX12_hull_25 (by decide) ?_
      exact j_zreturn (pc := 26) dX12_hull_26 rfl (rz0 H) (ri_2 H)

noncomputable def fX12_layer_58 (v1 : Int32) (v2 : Int32) (h : HS) : Option (Int32 × HS) := ck (inb (gI h 0 11) 6) (nm (pI h 6 (gI h 0 11).toNatClampNeg v1) (fun h12 => ck (inb (gI h12 0 11) 6) (nm (pI h12 7 (gI h12 0 11).toNatClampNeg v2) (fun h14 => nm (pI h14 0 11 ((gI h14 0 11) + (1 : Int32))) (fun h16 => some ((gI h16 0 11), h16))))))
set_option maxRecDepth 100000 in
theorem jX12_layer_58 {r : Int32} {h0 : HS} (v1 : Int32) (v2 : Int32) (h : HS) (H : fX12_layer_58 v1 v2 h = some (r, h0)) : Jx skM RX12 cX12_layer 3 (some .int) 2 (some (.int r)) h0 58 [some (.ref 0), some (.int v1), some (.int v2)] [] h := by
  unfold fX12_layer_58 at H
  refine j_aload_n (pc := 58) dX12_layer_58 rfl ?_
  refine j_getR (pc := 59) (b := 6) dX12_layer_59 flX12_29 rfl ?_
  refine j_aload_n (pc := 62) dX12_layer_62 rfl ?_
  refine j_getI (pc := 63) dX12_layer_63 flX12_181 rfl ?_
  refine j_iload_n (pc := 66) dX12_layer_66 rfl ?_
  obtain ⟨b13, H⟩ := ck_x H
  obtain ⟨h12, eh12, H⟩ := nm_x H
  refine j_iastore (pc := 67) dX12_layer_67 rfl b13 rfl h12 eh12 ?_
  refine j_aload_n (pc := 68) dX12_layer_68 rfl ?_
  refine j_getR (pc := 69) (b := 7) dX12_layer_69 flX12_32 rfl ?_
  refine j_aload_n (pc := 72) dX12_layer_72 rfl ?_
  refine j_getI (pc := 73) dX12_layer_73 flX12_181 rfl ?_
  refine j_iload_n (pc := 76) dX12_layer_76 rfl ?_
  obtain ⟨b15, H⟩ := ck_x H
  obtain ⟨h14, eh14, H⟩ := nm_x H
  refine j_iastore (pc := 77) dX12_layer_77 rfl b15 rfl h14 eh14 ?_
  refine j_aload_n (pc := 78) dX12_layer_78 rfl ?_
  refine j_dup (pc := 79) dX12_layer_79 rfl ?_
  refine j_getI (pc := 80) dX12_layer_80 flX12_181 rfl ?_
  refine j_iconst (pc := 83) (v := 1) dX12_layer_83 (by decide) ?_
  refine j_iadd (pc := 84) dX12_layer_84 ?_
  obtain ⟨h16, eh16, H⟩ := nm_x H
  refine j_putI (pc := 85) dX12_layer_85 fpX12_181 rfl h16 eh16 ?_
  refine j_aload_n (pc := 88) dX12_layer_88 rfl ?_
  refine j_getI (pc := 89) dX12_layer_89 flX12_181 rfl ?_
  exact j_ireturn (pc := 92) dX12_layer_92 rfl (ri_1 H) (ri_2 H)
noncomputable def fX12_layer (p1 : Int32) (p2 : Int32) (h : HS) : Option (Int32 × HS) := nm (pI h 0 22 (0 : Int32)) (fun h1 => bd (fX12_isDepth p1 h1) (fun r3 h2 => if r3 = 0 then (some ((-1 : Int32), h2)) else (bd (fX12_in p2 (900 : Int32) (1100 : Int32) h2) (fun r6 h5 => if r6 = 0 then (some ((-1 : Int32), h5)) else (if (gI h5 0 11) = (6 : Int32) then (some ((-1 : Int32), h5)) else (if (gI h5 0 11) ≤ 0 then (fX12_layer_58 p1 p2 h5) else (ck (inb ((gI h5 0 11) - (1 : Int32)) 6) (if (gI h5 6 ((gI h5 0 11) - (1 : Int32)).toNatClampNeg) < p1 then (fX12_layer_58 p1 p2 h5) else (some ((-1 : Int32), h5))))))))))
set_option maxRecDepth 100000 in
theorem tX12_layer {p1 : Int32} {p2 : Int32} {r : Int32} {h h0 : HS} (H : fX12_layer p1 p2 h = some (r, h0)) : Cn skM yX12_layer cX12_layer 3 (some .int) 2 [.ref 0, .int p1, .int p2] h (some (.int r)) h0 := by
  refine Cn_of (L := [some (.ref 0), some (.int p1), some (.int p2)]) (by decide +kernel) (by simp [lg_sl, Value.category]) (fun ad => by simp [lg_sl, tv, Value.category]) (⟨rfl, ⟨rfl, ⟨rfl, trivial⟩⟩⟩) ?_
  unfold fX12_layer at H
  refine j_aload_n (pc := 0) dX12_layer_0 rfl ?_
  refine j_iconst (pc := 1) (v := 0) dX12_layer_1 (by decide) ?_
  obtain ⟨h1, eh1, H⟩ := nm_x H
  refine j_putI (pc := 2) dX12_layer_2 fpX12_133 rfl h1 eh1 ?_
  refine j_iload_n (pc := 5) dX12_layer_5 rfl ?_
  obtain ⟨r3, h2, eh2, H⟩ := bd_x H
  refine j_callS (pc := 6) dX12_layer_6 mlX12_178 wyX12_isDepth (tX12_isDepth eh2) (by decide) rfl (by simp [Value.category]) rfl ?_
  refine j_if_eq (pc := 9) (tgt := 56) dX12_layer_9 (by decide) (fun c4 => ?_) (fun c4 => ?_)
  · rw [if_pos c4] at H
    refine j_iconst (pc := 56) (v := -1) dX12_layer_56 (by decide) ?_
    exact j_ireturn (pc := 57) dX12_layer_57 rfl (ri_1 H) (ri_2 H)
  · rw [if_neg c4] at H
    refine j_iload_n (pc := 12) dX12_layer_12 rfl ?_
    refine j_sipush (pc := 13) (v := 900) dX12_layer_13 (by decide) ?_
    refine j_sipush (pc := 16) (v := 1100) dX12_layer_16 (by decide) ?_
    obtain ⟨r6, h5, eh5, H⟩ := bd_x H
    refine j_callS (pc := 19) dX12_layer_19 mlX12_142 wyX12_in (tX12_in eh5) (by decide) rfl (by simp [Value.category]) rfl ?_
    refine j_if_eq (pc := 22) (tgt := 56) dX12_layer_22 (by decide) (fun c7 => ?_) (fun c7 => ?_)
    · rw [if_pos c7] at H
      refine j_iconst (pc := 56) (v := -1) dX12_layer_56 (by decide) ?_
      exact j_ireturn (pc := 57) dX12_layer_57 rfl (ri_1 H) (ri_2 H)
    · rw [if_neg c7] at H
      refine j_aload_n (pc := 25) dX12_layer_25 rfl ?_
      refine j_getI (pc := 26) dX12_layer_26 flX12_181 rfl ?_
      refine j_bipush (pc := 29) (v := 6) dX12_layer_29 (by decide) ?_
      refine j_icmp_eq (pc := 31) (tgt := 56) dX12_layer_31 (by decide) (fun c8 => ?_) (fun c8 => ?_)
      · rw [if_pos c8] at H
        refine j_iconst (pc := 56) (v := -1) dX12_layer_56 (by decide) ?_
        exact j_ireturn (pc := 57) dX12_layer_57 rfl (ri_1 H) (ri_2 H)
      · rw [if_neg c8] at H
        refine j_aload_n (pc := 34) dX12_layer_34 rfl ?_
        refine j_getI (pc := 35) dX12_layer_35 flX12_181 rfl ?_
        refine j_if_le (pc := 38) (tgt := 58) dX12_layer_38 (by decide) (fun c9 => ?_) (fun c9 => ?_)
        · rw [if_pos c9] at H
          refine Jx.sub (L' := [some (.ref 0), some (.int p1), some (.int p2)]) (⟨rfl, ⟨rfl, ⟨rfl, trivial⟩⟩⟩) ?_
          exact jX12_layer_58 p1 p2 h5 H
        · rw [if_neg c9] at H
          refine j_iload_n (pc := 41) dX12_layer_41 rfl ?_
          refine j_aload_n (pc := 42) dX12_layer_42 rfl ?_
          refine j_getR (pc := 43) (b := 6) dX12_layer_43 flX12_29 rfl ?_
          refine j_aload_n (pc := 46) dX12_layer_46 rfl ?_
          refine j_getI (pc := 47) dX12_layer_47 flX12_181 rfl ?_
          refine j_iconst (pc := 50) (v := 1) dX12_layer_50 (by decide) ?_
          refine j_isub (pc := 51) dX12_layer_51 ?_
          obtain ⟨b10, H⟩ := ck_x H
          refine j_iaload (pc := 52) dX12_layer_52 rfl b10 rfl ?_
          refine j_icmp_gt (pc := 53) (tgt := 58) dX12_layer_53 (by decide) (fun c11 => ?_) (fun c11 => ?_)
          · rw [if_pos c11] at H
            refine Jx.sub (L' := [some (.ref 0), some (.int p1), some (.int p2)]) (⟨rfl, ⟨rfl, ⟨rfl, trivial⟩⟩⟩) ?_
            exact jX12_layer_58 p1 p2 h5 H
          · rw [if_neg c11] at H
            refine j_iconst (pc := 56) (v := -1) dX12_layer_56 (by decide) ?_
            exact j_ireturn (pc := 57) dX12_layer_57 rfl (ri_1 H) (ri_2 H)

noncomputable def fX12_mix (h : HS) : Option (Int32 × HS) := nm (pI h 0 22 (0 : Int32)) (fun h1 => nm ((gI h1 0 11)) (fun v1_2 => nm (pI h1 0 11 (0 : Int32)) (fun h3 => some (v1_2, h3))))
set_option maxRecDepth 100000 in
theorem tX12_mix {r : Int32} {h h0 : HS} (H : fX12_mix h = some (r, h0)) : Cn skM yX12_mix cX12_mix 2 (some .int) 0 [.ref 0] h (some (.int r)) h0 := by
  refine Cn_of (L := [some (.ref 0), none]) (by decide +kernel) (by simp [lg_sl, Value.category]) (fun ad => by simp [lg_sl, tv, Value.category]) (⟨rfl, trivial⟩) ?_
  unfold fX12_mix at H
  refine j_aload_n (pc := 0) dX12_mix_0 rfl ?_
  refine j_iconst (pc := 1) (v := 0) dX12_mix_1 (by decide) ?_
  obtain ⟨h1, eh1, H⟩ := nm_x H
  refine j_putI (pc := 2) dX12_mix_2 fpX12_133 rfl h1 eh1 ?_
  refine j_aload_n (pc := 5) dX12_mix_5 rfl ?_
  refine j_getI (pc := 6) dX12_mix_6 flX12_181 rfl ?_
  obtain ⟨v1_2, ev1_2, H⟩ := nm_x H
  refine j_topi ev1_2 ?_
  refine j_istore_n (pc := 9) (L' := [some (.ref 0), some (.int v1_2)]) dX12_mix_9 (by decide) rfl ?_
  refine j_aload_n (pc := 10) dX12_mix_10 rfl ?_
  refine j_iconst (pc := 11) (v := 0) dX12_mix_11 (by decide) ?_
  obtain ⟨h3, eh3, H⟩ := nm_x H
  refine j_putI (pc := 12) dX12_mix_12 fpX12_181 rfl h3 eh3 ?_
  refine j_iload_n (pc := 15) dX12_mix_15 rfl ?_
  exact j_ireturn (pc := 16) dX12_mix_16 rfl (ri_1 H) (ri_2 H)

noncomputable def fX12_slack_28 (v1 : Int32) (v2 : Int32) (s2 : Int32) (s1 : Int32) (s0 : Int32) (h : HS) : Option (Int32 × HS) := bd (fX12_in s0 s1 s2 h) (fun r7 h6 => if r7 = 0 then (some ((-1 : Int32), h6)) else (ck (inb v1 3) (nm ((gI h6 8 v1.toNatClampNeg)) (fun v3_10 => ck (inb v1 3) (nm (pI h6 8 v1.toNatClampNeg v2) (fun h11 => some (v3_10, h11)))))))
set_option maxRecDepth 100000 in
theorem jX12_slack_28 {r : Int32} {h0 : HS} (v1 : Int32) (v2 : Int32) (s2 : Int32) (s1 : Int32) (s0 : Int32) (h : HS) (H : fX12_slack_28 v1 v2 s2 s1 s0 h = some (r, h0)) : Jx skM RX12 cX12_slack 4 (some .int) 1 (some (.int r)) h0 28 [some (.ref 0), some (.int v1), some (.int v2), none] [.int s2, .int s1, .int s0] h := by
  unfold fX12_slack_28 at H
  obtain ⟨r7, h6, eh6, H⟩ := bd_x H
  refine j_callS (pc := 28) dX12_slack_28 mlX12_142 wyX12_in (tX12_in eh6) (by decide) rfl (by simp [Value.category]) rfl ?_
  refine j_if_ne (pc := 31) (tgt := 36) dX12_slack_31 (by decide) (fun c8 => ?_) (fun c8 => ?_)
  · rw [if_neg c8] at H
    refine j_aload_n (pc := 36) dX12_slack_36 rfl ?_
    refine j_getR (pc := 37) (b := 8) dX12_slack_37 flX12_35 rfl ?_
    refine j_iload_n (pc := 40) dX12_slack_40 rfl ?_
    obtain ⟨b9, H⟩ := ck_x H
    refine j_iaload (pc := 41) dX12_slack_41 rfl b9 rfl ?_
    obtain ⟨v3_10, ev3_10, H⟩ := nm_x H
    refine j_topi ev3_10 ?_
    refine j_istore_n (pc := 42) (L' := [some (.ref 0), some (.int v1), some (.int v2), some (.int v3_10)]) dX12_slack_42 (by decide) rfl ?_
    refine j_aload_n (pc := 43) dX12_slack_43 rfl ?_
    refine j_getR (pc := 44) (b := 8) dX12_slack_44 flX12_35 rfl ?_
    refine j_iload_n (pc := 47) dX12_slack_47 rfl ?_
    refine j_iload_n (pc := 48) dX12_slack_48 rfl ?_
    obtain ⟨b12, H⟩ := ck_x H
    obtain ⟨h11, eh11, H⟩ := nm_x H
    refine j_iastore (pc := 49) dX12_slack_49 rfl b12 rfl h11 eh11 ?_
    refine j_iload_n (pc := 50) dX12_slack_50 rfl ?_
    exact j_ireturn (pc := 51) dX12_slack_51 rfl (ri_1 H) (ri_2 H)
  · rw [if_pos c8] at H
    refine j_iconst (pc := 34) (v := -1) dX12_slack_34 (by decide) ?_
    exact j_ireturn (pc := 35) dX12_slack_35 rfl (ri_1 H) (ri_2 H)
noncomputable def fX12_slack (p1 : Int32) (p2 : Int32) (h : HS) : Option (Int32 × HS) := nm (pI h 0 22 (0 : Int32)) (fun h1 => bd (fX12_in p1 (0 : Int32) (2 : Int32) h1) (fun r3 h2 => if r3 = 0 then (some ((-1 : Int32), h2)) else (if p1 = 0 then (fX12_slack_28 p1 p2 (50 : Int32) (0 : Int32) p2 h2) else (fX12_slack_28 p1 p2 (9999 : Int32) (0 : Int32) p2 h2))))
set_option maxRecDepth 100000 in
theorem tX12_slack {p1 : Int32} {p2 : Int32} {r : Int32} {h h0 : HS} (H : fX12_slack p1 p2 h = some (r, h0)) : Cn skM yX12_slack cX12_slack 4 (some .int) 1 [.ref 0, .int p1, .int p2] h (some (.int r)) h0 := by
  refine Cn_of (L := [some (.ref 0), some (.int p1), some (.int p2), none]) (by decide +kernel) (by simp [lg_sl, Value.category]) (fun ad => by simp [lg_sl, tv, Value.category]) (⟨rfl, ⟨rfl, ⟨rfl, trivial⟩⟩⟩) ?_
  unfold fX12_slack at H
  refine j_aload_n (pc := 0) dX12_slack_0 rfl ?_
  refine j_iconst (pc := 1) (v := 0) dX12_slack_1 (by decide) ?_
  obtain ⟨h1, eh1, H⟩ := nm_x H
  refine j_putI (pc := 2) dX12_slack_2 fpX12_133 rfl h1 eh1 ?_
  refine j_iload_n (pc := 5) dX12_slack_5 rfl ?_
  refine j_iconst (pc := 6) (v := 0) dX12_slack_6 (by decide) ?_
  refine j_iconst (pc := 7) (v := 2) dX12_slack_7 (by decide) ?_
  obtain ⟨r3, h2, eh2, H⟩ := bd_x H
  refine j_callS (pc := 8) dX12_slack_8 mlX12_142 wyX12_in (tX12_in eh2) (by decide) rfl (by simp [Value.category]) rfl ?_
  refine j_if_eq (pc := 11) (tgt := 34) dX12_slack_11 (by decide) (fun c4 => ?_) (fun c4 => ?_)
  · rw [if_pos c4] at H
    refine j_iconst (pc := 34) (v := -1) dX12_slack_34 (by decide) ?_
    exact j_ireturn (pc := 35) dX12_slack_35 rfl (ri_1 H) (ri_2 H)
  · rw [if_neg c4] at H
    refine j_iload_n (pc := 14) dX12_slack_14 rfl ?_
    refine j_iconst (pc := 15) (v := 0) dX12_slack_15 (by decide) ?_
    refine j_iload_n (pc := 16) dX12_slack_16 rfl ?_
    refine j_if_ne (pc := 17) (tgt := 25) dX12_slack_17 (by decide) (fun c5 => ?_) (fun c5 => ?_)
    · rw [if_neg c5] at H
      refine j_sipush (pc := 25) (v := 9999) dX12_slack_25 (by decide) ?_
      refine Jx.sub (L' := [some (.ref 0), some (.int p1), some (.int p2), none]) (⟨rfl, ⟨rfl, ⟨rfl, trivial⟩⟩⟩) ?_
      exact jX12_slack_28 p1 p2 (9999 : Int32) (0 : Int32) p2 h2 H
    · rw [if_pos c5] at H
      refine j_bipush (pc := 20) (v := 50) dX12_slack_20 (by decide) ?_
      refine j_goto (pc := 22) (tgt := 28) dX12_slack_22 (by decide) ?_
      refine Jx.sub (L' := [some (.ref 0), some (.int p1), some (.int p2), none]) (⟨rfl, ⟨rfl, ⟨rfl, trivial⟩⟩⟩) ?_
      exact jX12_slack_28 p1 p2 (50 : Int32) (0 : Int32) p2 h2 H

noncomputable def fX12_of_22 (h : HS) : Option (Int32 × HS) := bd (fX12_lost h) (fun r18 h17 => some (r18, h17))
set_option maxRecDepth 100000 in
theorem jX12_of_22 {r : Int32} {h0 : HS} (h : HS) (H : fX12_of_22 h = some (r, h0)) : Jx skM RX12 cX12_of 3 (some .int) 2 (some (.int r)) h0 22 [some (.ref 0), none, none] [] h := by
  unfold fX12_of_22 at H
  refine j_aload_n (pc := 22) dX12_of_22 rfl ?_
  obtain ⟨r18, h17, eh17, H⟩ := bd_x H
  refine j_callV (pc := 23) dX12_of_23 mlX12_184 wyX12_lost (tX12_lost eh17) (by decide) rfl rfl rfl rfl (by simp [Value.category]) rfl ?_
  exact j_ireturn (pc := 26) dX12_of_26 rfl (ri_1 H) (ri_2 H)
noncomputable def fX12_of (p1 : Int32) (p2 : Int32) (h : HS) : Option (Int32 × HS) := nm (pI h 0 22 (0 : Int32)) (fun h1 => bd (fX12_isLoad p1 h1) (fun r3 h2 => if r3 = 0 then (fX12_of_22 h2) else (bd (fX12_in p2 (0 : Int32) (4 : Int32) h2) (fun r6 h5 => if r6 = 0 then (fX12_of_22 h5) else (if p2 = 0 then (ck (inb p1 15) (some ((gI h5 1 p1.toNatClampNeg), h5))) else (if p2 = (1 : Int32) then (ck (inb p1 15) (some ((gI h5 2 p1.toNatClampNeg), h5))) else (if p2 = (2 : Int32) then (ck (inb p1 15) (some ((gI h5 3 p1.toNatClampNeg), h5))) else (if p2 = (3 : Int32) then (ck (inb p1 15) (some ((gI h5 4 p1.toNatClampNeg), h5))) else (ck (inb p1 15) (some ((gI h5 5 p1.toNatClampNeg), h5)))))))))))
set_option maxRecDepth 100000 in
theorem tX12_of {p1 : Int32} {p2 : Int32} {r : Int32} {h h0 : HS} (H : fX12_of p1 p2 h = some (r, h0)) : Cn skM yX12_of cX12_of 3 (some .int) 2 [.ref 0, .int p1, .int p2] h (some (.int r)) h0 := by
  refine Cn_of (L := [some (.ref 0), some (.int p1), some (.int p2)]) (by decide +kernel) (by simp [lg_sl, Value.category]) (fun ad => by simp [lg_sl, tv, Value.category]) (⟨rfl, ⟨rfl, ⟨rfl, trivial⟩⟩⟩) ?_
  unfold fX12_of at H
  refine j_aload_n (pc := 0) dX12_of_0 rfl ?_
  refine j_iconst (pc := 1) (v := 0) dX12_of_1 (by decide) ?_
  obtain ⟨h1, eh1, H⟩ := nm_x H
  refine j_putI (pc := 2) dX12_of_2 fpX12_133 rfl h1 eh1 ?_
  refine j_aload_n (pc := 5) dX12_of_5 rfl ?_
  refine j_iload_n (pc := 6) dX12_of_6 rfl ?_
  obtain ⟨r3, h2, eh2, H⟩ := bd_x H
  refine j_callV (pc := 7) dX12_of_7 mlX12_146 wyX12_isLoad (tX12_isLoad eh2) (by decide) rfl rfl rfl rfl (by simp [Value.category]) rfl ?_
  refine j_if_eq (pc := 10) (tgt := 22) dX12_of_10 (by decide) (fun c4 => ?_) (fun c4 => ?_)
  · rw [if_pos c4] at H
    refine Jx.sub (L' := [some (.ref 0), none, none]) (⟨rfl, trivial⟩) ?_
    exact jX12_of_22 h2 H
  · rw [if_neg c4] at H
    refine j_iload_n (pc := 13) dX12_of_13 rfl ?_
    refine j_iconst (pc := 14) (v := 0) dX12_of_14 (by decide) ?_
    refine j_iconst (pc := 15) (v := 4) dX12_of_15 (by decide) ?_
    obtain ⟨r6, h5, eh5, H⟩ := bd_x H
    refine j_callS (pc := 16) dX12_of_16 mlX12_142 wyX12_in (tX12_in eh5) (by decide) rfl (by simp [Value.category]) rfl ?_
    refine j_if_ne (pc := 19) (tgt := 27) dX12_of_19 (by decide) (fun c7 => ?_) (fun c7 => ?_)
    · rw [if_neg c7] at H
      refine j_iload_n (pc := 27) dX12_of_27 rfl ?_
      refine j_if_ne (pc := 28) (tgt := 40) dX12_of_28 (by decide) (fun c8 => ?_) (fun c8 => ?_)
      · rw [if_neg c8] at H
        refine j_iload_n (pc := 40) dX12_of_40 rfl ?_
        refine j_iconst (pc := 41) (v := 1) dX12_of_41 (by decide) ?_
        refine j_icmp_ne (pc := 42) (tgt := 54) dX12_of_42 (by decide) (fun c9 => ?_) (fun c9 => ?_)
        · rw [if_neg c9] at H
          refine j_iload_n (pc := 54) dX12_of_54 rfl ?_
          refine j_iconst (pc := 55) (v := 2) dX12_of_55 (by decide) ?_
          refine j_icmp_ne (pc := 56) (tgt := 68) dX12_of_56 (by decide) (fun c10 => ?_) (fun c10 => ?_)
          · rw [if_neg c10] at H
            refine j_iload_n (pc := 68) dX12_of_68 rfl ?_
            refine j_iconst (pc := 69) (v := 3) dX12_of_69 (by decide) ?_
            refine j_icmp_ne (pc := 70) (tgt := 82) dX12_of_70 (by decide) (fun c11 => ?_) (fun c11 => ?_)
            · rw [if_neg c11] at H
              refine j_aload_n (pc := 82) dX12_of_82 rfl ?_
              refine j_getR (pc := 83) (b := 5) dX12_of_83 flX12_22 rfl ?_
              refine j_iload_n (pc := 86) dX12_of_86 rfl ?_
              obtain ⟨b12, H⟩ := ck_x H
              refine j_iaload (pc := 87) dX12_of_87 rfl b12 rfl ?_
              exact j_ireturn (pc := 88) dX12_of_88 rfl (ri_1 H) (ri_2 H)
            · rw [if_pos c11] at H
              refine j_aload_n (pc := 73) dX12_of_73 rfl ?_
              refine j_getR (pc := 74) (b := 4) dX12_of_74 flX12_19 rfl ?_
              refine j_iload_n (pc := 77) dX12_of_77 rfl ?_
              obtain ⟨b13, H⟩ := ck_x H
              refine j_iaload (pc := 78) dX12_of_78 rfl b13 rfl ?_
              refine j_goto (pc := 79) (tgt := 88) dX12_of_79 (by decide) ?_
              exact j_ireturn (pc := 88) dX12_of_88 rfl (ri_1 H) (ri_2 H)
          · rw [if_pos c10] at H
            refine j_aload_n (pc := 59) dX12_of_59 rfl ?_
            refine j_getR (pc := 60) (b := 3) dX12_of_60 flX12_16 rfl ?_
            refine j_iload_n (pc := 63) dX12_of_63 rfl ?_
            obtain ⟨b14, H⟩ := ck_x H
            refine j_iaload (pc := 64) dX12_of_64 rfl b14 rfl ?_
            refine j_goto (pc := 65) (tgt := 88) dX12_of_65 (by decide) ?_
            exact j_ireturn (pc := 88) dX12_of_88 rfl (ri_1 H) (ri_2 H)
        · rw [if_pos c9] at H
          refine j_aload_n (pc := 45) dX12_of_45 rfl ?_
          refine j_getR (pc := 46) (b := 2) dX12_of_46 flX12_13 rfl ?_
          refine j_iload_n (pc := 49) dX12_of_49 rfl ?_
          obtain ⟨b15, H⟩ := ck_x H
          refine j_iaload (pc := 50) dX12_of_50 rfl b15 rfl ?_
          refine j_goto (pc := 51) (tgt := 88) dX12_of_51 (by decide) ?_
          exact j_ireturn (pc := 88) dX12_of_88 rfl (ri_1 H) (ri_2 H)
      · rw [if_pos c8] at H
        refine j_aload_n (pc := 31) dX12_of_31 rfl ?_
        refine j_getR (pc := 32) (b := 1) dX12_of_32 flX12_9 rfl ?_
        refine j_iload_n (pc := 35) dX12_of_35 rfl ?_
        obtain ⟨b16, H⟩ := ck_x H
        refine j_iaload (pc := 36) dX12_of_36 rfl b16 rfl ?_
        refine j_goto (pc := 37) (tgt := 88) dX12_of_37 (by decide) ?_
        exact j_ireturn (pc := 88) dX12_of_88 rfl (ri_1 H) (ri_2 H)
    · rw [if_pos c7] at H
      refine Jx.sub (L' := [some (.ref 0), none, none]) (⟨rfl, trivial⟩) ?_
      exact jX12_of_22 h5 H
