theorem dX12_densityAt_0 : decode cX12_densityAt 0 = .ok (.sipush 1000, 3) := by decide +kernel
theorem dX12_densityAt_3 : decode cX12_densityAt 3 = .ok (.istore_n 2, 1) := by decide +kernel
theorem dX12_densityAt_4 : decode cX12_densityAt 4 = .ok (.iconst 0, 1) := by decide +kernel
theorem dX12_densityAt_5 : decode cX12_densityAt 5 = .ok (.istore_n 3, 1) := by decide +kernel
theorem dX12_densityAt_6 : decode cX12_densityAt 6 = .ok (.iload_n 3, 1) := by decide +kernel
theorem dX12_densityAt_7 : decode cX12_densityAt 7 = .ok (.aload_n 0, 1) := by decide +kernel
theorem dX12_densityAt_8 : decode cX12_densityAt 8 = .ok (.getfield 181, 3) := by decide +kernel
theorem dX12_densityAt_11 : decode cX12_densityAt 11 = .ok (.if_icmp .ge 26, 3) := by decide +kernel
theorem dX12_densityAt_14 : decode cX12_densityAt 14 = .ok (.aload_n 0, 1) := by decide +kernel
theorem dX12_densityAt_15 : decode cX12_densityAt 15 = .ok (.getfield 29, 3) := by decide +kernel
theorem dX12_densityAt_18 : decode cX12_densityAt 18 = .ok (.iload_n 3, 1) := by decide +kernel
theorem dX12_densityAt_19 : decode cX12_densityAt 19 = .ok (.iaload, 1) := by decide +kernel
theorem dX12_densityAt_20 : decode cX12_densityAt 20 = .ok (.iload_n 1, 1) := by decide +kernel
theorem dX12_densityAt_21 : decode cX12_densityAt 21 = .ok (.if_icmp .gt 10, 3) := by decide +kernel
theorem dX12_densityAt_24 : decode cX12_densityAt 24 = .ok (.aload_n 0, 1) := by decide +kernel
theorem dX12_densityAt_25 : decode cX12_densityAt 25 = .ok (.getfield 32, 3) := by decide +kernel
theorem dX12_densityAt_28 : decode cX12_densityAt 28 = .ok (.iload_n 3, 1) := by decide +kernel
theorem dX12_densityAt_29 : decode cX12_densityAt 29 = .ok (.iaload, 1) := by decide +kernel
theorem dX12_densityAt_30 : decode cX12_densityAt 30 = .ok (.istore_n 2, 1) := by decide +kernel
theorem dX12_densityAt_31 : decode cX12_densityAt 31 = .ok (.iinc 3 1, 3) := by decide +kernel
theorem dX12_densityAt_34 : decode cX12_densityAt 34 = .ok (.goto (-28), 3) := by decide +kernel
theorem dX12_densityAt_37 : decode cX12_densityAt 37 = .ok (.iload_n 2, 1) := by decide +kernel
theorem dX12_densityAt_38 : decode cX12_densityAt 38 = .ok (.ireturn, 1) := by decide +kernel
theorem dX12_liftAt_0 : decode cX12_liftAt 0 = .ok (.aload_n 0, 1) := by decide +kernel
theorem dX12_liftAt_1 : decode cX12_liftAt 1 = .ok (.getfield 25, 3) := by decide +kernel
theorem dX12_liftAt_4 : decode cX12_liftAt 4 = .ok (.aload_n 0, 1) := by decide +kernel
theorem dX12_liftAt_5 : decode cX12_liftAt 5 = .ok (.getfield 175, 3) := by decide +kernel
theorem dX12_liftAt_8 : decode cX12_liftAt 8 = .ok (.iload_n 1, 1) := by decide +kernel
theorem dX12_liftAt_9 : decode cX12_liftAt 9 = .ok (.imul, 1) := by decide +kernel
theorem dX12_liftAt_10 : decode cX12_liftAt 10 = .ok (.bipush 10, 2) := by decide +kernel
theorem dX12_liftAt_12 : decode cX12_liftAt 12 = .ok (.idiv, 1) := by decide +kernel
theorem dX12_liftAt_13 : decode cX12_liftAt 13 = .ok (.isub, 1) := by decide +kernel
theorem dX12_liftAt_14 : decode cX12_liftAt 14 = .ok (.aload_n 0, 1) := by decide +kernel
theorem dX12_liftAt_15 : decode cX12_liftAt 15 = .ok (.iload_n 1, 1) := by decide +kernel
theorem dX12_liftAt_16 : decode cX12_liftAt 16 = .ok (.invokevirtual 188, 3) := by decide +kernel
theorem dX12_liftAt_19 : decode cX12_liftAt 19 = .ok (.imul, 1) := by decide +kernel
theorem dX12_liftAt_20 : decode cX12_liftAt 20 = .ok (.sipush 1000, 3) := by decide +kernel
theorem dX12_liftAt_23 : decode cX12_liftAt 23 = .ok (.idiv, 1) := by decide +kernel
theorem dX12_liftAt_24 : decode cX12_liftAt 24 = .ok (.ireturn, 1) := by decide +kernel
theorem dX12_weight_0 : decode cX12_weight 0 = .ok (.aload_n 0, 1) := by decide +kernel
theorem dX12_weight_1 : decode cX12_weight 1 = .ok (.getfield 166, 3) := by decide +kernel
theorem dX12_weight_4 : decode cX12_weight 4 = .ok (.istore_n 1, 1) := by decide +kernel
theorem dX12_weight_5 : decode cX12_weight 5 = .ok (.iconst 0, 1) := by decide +kernel
theorem dX12_weight_6 : decode cX12_weight 6 = .ok (.istore_n 2, 1) := by decide +kernel
theorem dX12_weight_7 : decode cX12_weight 7 = .ok (.iload_n 2, 1) := by decide +kernel
theorem dX12_weight_8 : decode cX12_weight 8 = .ok (.aload_n 0, 1) := by decide +kernel
theorem dX12_weight_9 : decode cX12_weight 9 = .ok (.getfield 139, 3) := by decide +kernel
theorem dX12_weight_12 : decode cX12_weight 12 = .ok (.if_icmp .ge 18, 3) := by decide +kernel
theorem dX12_weight_15 : decode cX12_weight 15 = .ok (.iload_n 1, 1) := by decide +kernel
theorem dX12_weight_16 : decode cX12_weight 16 = .ok (.aload_n 0, 1) := by decide +kernel
theorem dX12_weight_17 : decode cX12_weight 17 = .ok (.getfield 22, 3) := by decide +kernel
theorem dX12_weight_20 : decode cX12_weight 20 = .ok (.iload_n 2, 1) := by decide +kernel
theorem dX12_weight_21 : decode cX12_weight 21 = .ok (.iaload, 1) := by decide +kernel
theorem dX12_weight_22 : decode cX12_weight 22 = .ok (.iadd, 1) := by decide +kernel
theorem dX12_weight_23 : decode cX12_weight 23 = .ok (.istore_n 1, 1) := by decide +kernel
theorem dX12_weight_24 : decode cX12_weight 24 = .ok (.iinc 2 1, 3) := by decide +kernel
theorem dX12_weight_27 : decode cX12_weight 27 = .ok (.goto (-20), 3) := by decide +kernel
theorem dX12_weight_30 : decode cX12_weight 30 = .ok (.iload_n 1, 1) := by decide +kernel
theorem dX12_weight_31 : decode cX12_weight 31 = .ok (.ireturn, 1) := by decide +kernel
theorem dX12_heavyAt_0 : decode cX12_heavyAt 0 = .ok (.aload_n 0, 1) := by decide +kernel
theorem dX12_heavyAt_1 : decode cX12_heavyAt 1 = .ok (.invokevirtual 192, 3) := by decide +kernel
theorem dX12_heavyAt_4 : decode cX12_heavyAt 4 = .ok (.aload_n 0, 1) := by decide +kernel
theorem dX12_heavyAt_5 : decode cX12_heavyAt 5 = .ok (.iload_n 1, 1) := by decide +kernel
theorem dX12_heavyAt_6 : decode cX12_heavyAt 6 = .ok (.invokevirtual 195, 3) := by decide +kernel
theorem dX12_heavyAt_9 : decode cX12_heavyAt 9 = .ok (.isub, 1) := by decide +kernel
theorem dX12_heavyAt_10 : decode cX12_heavyAt 10 = .ok (.ireturn, 1) := by decide +kernel
theorem dX12_momentOf_0 : decode cX12_momentOf 0 = .ok (.iload_n 1, 1) := by decide +kernel
theorem dX12_momentOf_1 : decode cX12_momentOf 1 = .ok (.ifCond .ne 10, 3) := by decide +kernel
theorem dX12_momentOf_4 : decode cX12_momentOf 4 = .ok (.aload_n 0, 1) := by decide +kernel
theorem dX12_momentOf_5 : decode cX12_momentOf 5 = .ok (.getfield 169, 3) := by decide +kernel
theorem dX12_momentOf_8 : decode cX12_momentOf 8 = .ok (.goto 7, 3) := by decide +kernel
theorem dX12_momentOf_11 : decode cX12_momentOf 11 = .ok (.aload_n 0, 1) := by decide +kernel
theorem dX12_momentOf_12 : decode cX12_momentOf 12 = .ok (.getfield 172, 3) := by decide +kernel
theorem dX12_momentOf_15 : decode cX12_momentOf 15 = .ok (.istore_n 2, 1) := by decide +kernel
theorem dX12_momentOf_16 : decode cX12_momentOf 16 = .ok (.iconst 0, 1) := by decide +kernel
theorem dX12_momentOf_17 : decode cX12_momentOf 17 = .ok (.istore_n 3, 1) := by decide +kernel
theorem dX12_momentOf_18 : decode cX12_momentOf 18 = .ok (.iload_n 3, 1) := by decide +kernel
theorem dX12_momentOf_19 : decode cX12_momentOf 19 = .ok (.aload_n 0, 1) := by decide +kernel
theorem dX12_momentOf_20 : decode cX12_momentOf 20 = .ok (.getfield 139, 3) := by decide +kernel
theorem dX12_momentOf_23 : decode cX12_momentOf 23 = .ok (.if_icmp .ge 38, 3) := by decide +kernel
theorem dX12_momentOf_26 : decode cX12_momentOf 26 = .ok (.iload_n 2, 1) := by decide +kernel
theorem dX12_momentOf_27 : decode cX12_momentOf 27 = .ok (.iload_n 1, 1) := by decide +kernel
theorem dX12_momentOf_28 : decode cX12_momentOf 28 = .ok (.ifCond .ne 12, 3) := by decide +kernel
theorem dX12_momentOf_31 : decode cX12_momentOf 31 = .ok (.aload_n 0, 1) := by decide +kernel
theorem dX12_momentOf_32 : decode cX12_momentOf 32 = .ok (.getfield 13, 3) := by decide +kernel
theorem dX12_momentOf_35 : decode cX12_momentOf 35 = .ok (.iload_n 3, 1) := by decide +kernel
theorem dX12_momentOf_36 : decode cX12_momentOf 36 = .ok (.iaload, 1) := by decide +kernel
theorem dX12_momentOf_37 : decode cX12_momentOf 37 = .ok (.goto 9, 3) := by decide +kernel
theorem dX12_momentOf_40 : decode cX12_momentOf 40 = .ok (.aload_n 0, 1) := by decide +kernel
theorem dX12_momentOf_41 : decode cX12_momentOf 41 = .ok (.getfield 16, 3) := by decide +kernel
theorem dX12_momentOf_44 : decode cX12_momentOf 44 = .ok (.iload_n 3, 1) := by decide +kernel
theorem dX12_momentOf_45 : decode cX12_momentOf 45 = .ok (.iaload, 1) := by decide +kernel
theorem dX12_momentOf_46 : decode cX12_momentOf 46 = .ok (.aload_n 0, 1) := by decide +kernel
theorem dX12_momentOf_47 : decode cX12_momentOf 47 = .ok (.getfield 22, 3) := by decide +kernel
theorem dX12_momentOf_50 : decode cX12_momentOf 50 = .ok (.iload_n 3, 1) := by decide +kernel
theorem dX12_momentOf_51 : decode cX12_momentOf 51 = .ok (.iaload, 1) := by decide +kernel
theorem dX12_momentOf_52 : decode cX12_momentOf 52 = .ok (.imul, 1) := by decide +kernel
theorem dX12_momentOf_53 : decode cX12_momentOf 53 = .ok (.iadd, 1) := by decide +kernel
theorem dX12_momentOf_54 : decode cX12_momentOf 54 = .ok (.istore_n 2, 1) := by decide +kernel
theorem dX12_momentOf_55 : decode cX12_momentOf 55 = .ok (.iinc 3 1, 3) := by decide +kernel
theorem dX12_momentOf_58 : decode cX12_momentOf 58 = .ok (.goto (-40), 3) := by decide +kernel
theorem dX12_momentOf_61 : decode cX12_momentOf 61 = .ok (.iload_n 2, 1) := by decide +kernel
theorem dX12_momentOf_62 : decode cX12_momentOf 62 = .ok (.ireturn, 1) := by decide +kernel
theorem dX12_isBalanced_0 : decode cX12_isBalanced 0 = .ok (.aload_n 0, 1) := by decide +kernel
theorem dX12_isBalanced_1 : decode cX12_isBalanced 1 = .ok (.iload_n 1, 1) := by decide +kernel
theorem dX12_isBalanced_2 : decode cX12_isBalanced 2 = .ok (.invokevirtual 198, 3) := by decide +kernel
theorem dX12_isBalanced_5 : decode cX12_isBalanced 5 = .ok (.invokestatic 201, 3) := by decide +kernel
theorem dX12_isBalanced_8 : decode cX12_isBalanced 8 = .ok (.aload_n 0, 1) := by decide +kernel
theorem dX12_isBalanced_9 : decode cX12_isBalanced 9 = .ok (.getfield 35, 3) := by decide +kernel
theorem dX12_isBalanced_12 : decode cX12_isBalanced 12 = .ok (.iconst 0, 1) := by decide +kernel
theorem dX12_isBalanced_13 : decode cX12_isBalanced 13 = .ok (.iaload, 1) := by decide +kernel
theorem dX12_isBalanced_14 : decode cX12_isBalanced 14 = .ok (.if_icmp .gt 41, 3) := by decide +kernel
theorem dX12_isBalanced_17 : decode cX12_isBalanced 17 = .ok (.aload_n 0, 1) := by decide +kernel
theorem dX12_isBalanced_18 : decode cX12_isBalanced 18 = .ok (.iconst 0, 1) := by decide +kernel
theorem dX12_isBalanced_19 : decode cX12_isBalanced 19 = .ok (.invokevirtual 204, 3) := by decide +kernel
theorem dX12_isBalanced_22 : decode cX12_isBalanced 22 = .ok (.invokestatic 201, 3) := by decide +kernel
theorem dX12_isBalanced_25 : decode cX12_isBalanced 25 = .ok (.aload_n 0, 1) := by decide +kernel
theorem dX12_isBalanced_26 : decode cX12_isBalanced 26 = .ok (.getfield 35, 3) := by decide +kernel
theorem dX12_isBalanced_29 : decode cX12_isBalanced 29 = .ok (.iconst 1, 1) := by decide +kernel
theorem dX12_isBalanced_30 : decode cX12_isBalanced 30 = .ok (.iaload, 1) := by decide +kernel
theorem dX12_isBalanced_31 : decode cX12_isBalanced 31 = .ok (.if_icmp .gt 24, 3) := by decide +kernel
theorem dX12_isBalanced_34 : decode cX12_isBalanced 34 = .ok (.aload_n 0, 1) := by decide +kernel
theorem dX12_isBalanced_35 : decode cX12_isBalanced 35 = .ok (.iconst 1, 1) := by decide +kernel
theorem dX12_isBalanced_36 : decode cX12_isBalanced 36 = .ok (.invokevirtual 204, 3) := by decide +kernel
theorem dX12_isBalanced_39 : decode cX12_isBalanced 39 = .ok (.invokestatic 201, 3) := by decide +kernel
theorem dX12_isBalanced_42 : decode cX12_isBalanced 42 = .ok (.aload_n 0, 1) := by decide +kernel
theorem dX12_isBalanced_43 : decode cX12_isBalanced 43 = .ok (.getfield 35, 3) := by decide +kernel
theorem dX12_isBalanced_46 : decode cX12_isBalanced 46 = .ok (.iconst 2, 1) := by decide +kernel
theorem dX12_isBalanced_47 : decode cX12_isBalanced 47 = .ok (.iaload, 1) := by decide +kernel
theorem dX12_isBalanced_48 : decode cX12_isBalanced 48 = .ok (.if_icmp .gt 7, 3) := by decide +kernel
theorem dX12_isBalanced_51 : decode cX12_isBalanced 51 = .ok (.iconst 1, 1) := by decide +kernel
theorem dX12_isBalanced_52 : decode cX12_isBalanced 52 = .ok (.goto 4, 3) := by decide +kernel
theorem dX12_isBalanced_55 : decode cX12_isBalanced 55 = .ok (.iconst 0, 1) := by decide +kernel
theorem dX12_isBalanced_56 : decode cX12_isBalanced 56 = .ok (.ireturn, 1) := by decide +kernel
theorem dX12_heavy_0 : decode cX12_heavy 0 = .ok (.aload_n 0, 1) := by decide +kernel
theorem dX12_heavy_1 : decode cX12_heavy 1 = .ok (.iconst 0, 1) := by decide +kernel
theorem dX12_heavy_2 : decode cX12_heavy 2 = .ok (.putfield 133, 3) := by decide +kernel
theorem dX12_heavy_5 : decode cX12_heavy 5 = .ok (.iload_n 1, 1) := by decide +kernel
theorem dX12_heavy_6 : decode cX12_heavy 6 = .ok (.invokestatic 178, 3) := by decide +kernel
theorem dX12_heavy_9 : decode cX12_heavy 9 = .ok (.ifCond .eq 11, 3) := by decide +kernel
theorem dX12_heavy_12 : decode cX12_heavy 12 = .ok (.aload_n 0, 1) := by decide +kernel
theorem dX12_heavy_13 : decode cX12_heavy 13 = .ok (.iload_n 1, 1) := by decide +kernel
theorem dX12_heavy_14 : decode cX12_heavy 14 = .ok (.invokevirtual 198, 3) := by decide +kernel
theorem dX12_heavy_17 : decode cX12_heavy 17 = .ok (.goto 7, 3) := by decide +kernel
theorem dX12_heavy_20 : decode cX12_heavy 20 = .ok (.aload_n 0, 1) := by decide +kernel
theorem dX12_heavy_21 : decode cX12_heavy 21 = .ok (.invokevirtual 184, 3) := by decide +kernel
theorem dX12_heavy_24 : decode cX12_heavy 24 = .ok (.ireturn, 1) := by decide +kernel
theorem dX12_moment_0 : decode cX12_moment 0 = .ok (.aload_n 0, 1) := by decide +kernel
theorem dX12_moment_1 : decode cX12_moment 1 = .ok (.iconst 0, 1) := by decide +kernel
theorem dX12_moment_2 : decode cX12_moment 2 = .ok (.putfield 133, 3) := by decide +kernel
theorem dX12_moment_5 : decode cX12_moment 5 = .ok (.iload_n 1, 1) := by decide +kernel
theorem dX12_moment_6 : decode cX12_moment 6 = .ok (.iconst 0, 1) := by decide +kernel
theorem dX12_moment_7 : decode cX12_moment 7 = .ok (.iconst 1, 1) := by decide +kernel
theorem dX12_moment_8 : decode cX12_moment 8 = .ok (.invokestatic 142, 3) := by decide +kernel
theorem dX12_moment_11 : decode cX12_moment 11 = .ok (.ifCond .eq 11, 3) := by decide +kernel
theorem dX12_moment_14 : decode cX12_moment 14 = .ok (.aload_n 0, 1) := by decide +kernel
theorem dX12_moment_15 : decode cX12_moment 15 = .ok (.iload_n 1, 1) := by decide +kernel
theorem dX12_moment_16 : decode cX12_moment 16 = .ok (.invokevirtual 204, 3) := by decide +kernel
theorem dX12_moment_19 : decode cX12_moment 19 = .ok (.goto 7, 3) := by decide +kernel
theorem dX12_moment_22 : decode cX12_moment 22 = .ok (.aload_n 0, 1) := by decide +kernel
theorem dX12_moment_23 : decode cX12_moment 23 = .ok (.invokevirtual 184, 3) := by decide +kernel
theorem dX12_moment_26 : decode cX12_moment 26 = .ok (.ireturn, 1) := by decide +kernel
theorem dX12_balanced_0 : decode cX12_balanced 0 = .ok (.aload_n 0, 1) := by decide +kernel
theorem dX12_balanced_1 : decode cX12_balanced 1 = .ok (.iconst 0, 1) := by decide +kernel
theorem dX12_balanced_2 : decode cX12_balanced 2 = .ok (.putfield 133, 3) := by decide +kernel
theorem dX12_balanced_5 : decode cX12_balanced 5 = .ok (.iload_n 1, 1) := by decide +kernel
theorem dX12_balanced_6 : decode cX12_balanced 6 = .ok (.invokestatic 178, 3) := by decide +kernel
theorem dX12_balanced_9 : decode cX12_balanced 9 = .ok (.ifCond .ne 7, 3) := by decide +kernel
theorem dX12_balanced_12 : decode cX12_balanced 12 = .ok (.iconst (-1), 1) := by decide +kernel
theorem dX12_balanced_13 : decode cX12_balanced 13 = .ok (.goto 16, 3) := by decide +kernel
theorem dX12_balanced_16 : decode cX12_balanced 16 = .ok (.aload_n 0, 1) := by decide +kernel
theorem dX12_balanced_17 : decode cX12_balanced 17 = .ok (.iload_n 1, 1) := by decide +kernel
theorem dX12_balanced_18 : decode cX12_balanced 18 = .ok (.invokevirtual 207, 3) := by decide +kernel
theorem dX12_balanced_21 : decode cX12_balanced 21 = .ok (.ifCond .eq 7, 3) := by decide +kernel
theorem dX12_balanced_24 : decode cX12_balanced 24 = .ok (.iconst 1, 1) := by decide +kernel
theorem dX12_balanced_25 : decode cX12_balanced 25 = .ok (.goto 4, 3) := by decide +kernel
theorem dX12_balanced_28 : decode cX12_balanced 28 = .ok (.iconst 0, 1) := by decide +kernel
theorem dX12_balanced_29 : decode cX12_balanced 29 = .ok (.ireturn, 1) := by decide +kernel
theorem dX12_lies_0 : decode cX12_lies 0 = .ok (.aload_n 0, 1) := by decide +kernel
theorem dX12_lies_1 : decode cX12_lies 1 = .ok (.iconst 0, 1) := by decide +kernel
theorem dX12_lies_2 : decode cX12_lies 2 = .ok (.putfield 133, 3) := by decide +kernel
theorem dX12_lies_5 : decode cX12_lies 5 = .ok (.iload_n 1, 1) := by decide +kernel
theorem dX12_lies_6 : decode cX12_lies 6 = .ok (.invokestatic 178, 3) := by decide +kernel
theorem dX12_lies_9 : decode cX12_lies 9 = .ok (.ifCond .eq 15, 3) := by decide +kernel
theorem dX12_lies_12 : decode cX12_lies 12 = .ok (.iload_n 2, 1) := by decide +kernel
theorem dX12_lies_13 : decode cX12_lies 13 = .ok (.invokestatic 178, 3) := by decide +kernel
theorem dX12_lies_16 : decode cX12_lies 16 = .ok (.ifCond .eq 8, 3) := by decide +kernel
theorem dX12_lies_19 : decode cX12_lies 19 = .ok (.iload_n 1, 1) := by decide +kernel
theorem dX12_lies_20 : decode cX12_lies 20 = .ok (.iload_n 2, 1) := by decide +kernel
theorem dX12_lies_21 : decode cX12_lies 21 = .ok (.if_icmp .le 5, 3) := by decide +kernel
theorem dX12_lies_24 : decode cX12_lies 24 = .ok (.iconst (-1), 1) := by decide +kernel
theorem dX12_lies_25 : decode cX12_lies 25 = .ok (.ireturn, 1) := by decide +kernel
theorem dX12_lies_26 : decode cX12_lies 26 = .ok (.iload_n 1, 1) := by decide +kernel
theorem dX12_lies_27 : decode cX12_lies 27 = .ok (.istore_n 3, 1) := by decide +kernel
theorem dX12_lies_28 : decode cX12_lies 28 = .ok (.iload_n 3, 1) := by decide +kernel
theorem dX12_lies_29 : decode cX12_lies 29 = .ok (.iload_n 2, 1) := by decide +kernel
theorem dX12_lies_30 : decode cX12_lies 30 = .ok (.if_icmp .gt 19, 3) := by decide +kernel
theorem dX12_lies_33 : decode cX12_lies 33 = .ok (.aload_n 0, 1) := by decide +kernel
theorem dX12_lies_34 : decode cX12_lies 34 = .ok (.iload_n 3, 1) := by decide +kernel
theorem dX12_lies_35 : decode cX12_lies 35 = .ok (.invokevirtual 198, 3) := by decide +kernel
theorem dX12_lies_38 : decode cX12_lies 38 = .ok (.ifCond .gt 5, 3) := by decide +kernel
theorem dX12_lies_41 : decode cX12_lies 41 = .ok (.iload_n 3, 1) := by decide +kernel
theorem dX12_lies_42 : decode cX12_lies 42 = .ok (.ireturn, 1) := by decide +kernel
theorem dX12_lies_43 : decode cX12_lies 43 = .ok (.iinc 3 1, 3) := by decide +kernel
theorem dX12_lies_46 : decode cX12_lies 46 = .ok (.goto (-18), 3) := by decide +kernel
theorem dX12_lies_49 : decode cX12_lies 49 = .ok (.bipush (-2), 2) := by decide +kernel
theorem dX12_lies_51 : decode cX12_lies 51 = .ok (.ireturn, 1) := by decide +kernel
theorem dX12_hover_0 : decode cX12_hover 0 = .ok (.aload_n 0, 1) := by decide +kernel
theorem dX12_hover_1 : decode cX12_hover 1 = .ok (.iconst 0, 1) := by decide +kernel
theorem dX12_hover_2 : decode cX12_hover 2 = .ok (.putfield 133, 3) := by decide +kernel
theorem dX12_hover_5 : decode cX12_hover 5 = .ok (.iload_n 1, 1) := by decide +kernel
theorem dX12_hover_6 : decode cX12_hover 6 = .ok (.invokestatic 178, 3) := by decide +kernel
theorem dX12_hover_9 : decode cX12_hover 9 = .ok (.ifCond .eq 15, 3) := by decide +kernel
theorem dX12_hover_12 : decode cX12_hover 12 = .ok (.iload_n 2, 1) := by decide +kernel
theorem dX12_hover_13 : decode cX12_hover 13 = .ok (.invokestatic 178, 3) := by decide +kernel
theorem dX12_hover_16 : decode cX12_hover 16 = .ok (.ifCond .eq 8, 3) := by decide +kernel
theorem dX12_hover_19 : decode cX12_hover 19 = .ok (.iload_n 1, 1) := by decide +kernel
theorem dX12_hover_20 : decode cX12_hover 20 = .ok (.iload_n 2, 1) := by decide +kernel
theorem dX12_hover_21 : decode cX12_hover 21 = .ok (.if_icmp .le 5, 3) := by decide +kernel
theorem dX12_hover_24 : decode cX12_hover 24 = .ok (.iconst (-1), 1) := by decide +kernel
theorem dX12_hover_25 : decode cX12_hover 25 = .ok (.ireturn, 1) := by decide +kernel
theorem dX12_hover_26 : decode cX12_hover 26 = .ok (.iconst 0, 1) := by decide +kernel
theorem dX12_hover_27 : decode cX12_hover 27 = .ok (.istore_n 3, 1) := by decide +kernel
theorem dX12_hover_28 : decode cX12_hover 28 = .ok (.iconst (-1), 1) := by decide +kernel
theorem dX12_hover_29 : decode cX12_hover 29 = .ok (.istore 4, 2) := by decide +kernel
theorem dX12_hover_31 : decode cX12_hover 31 = .ok (.iconst (-1), 1) := by decide +kernel
theorem dX12_hover_32 : decode cX12_hover 32 = .ok (.istore 5, 2) := by decide +kernel
theorem dX12_hover_34 : decode cX12_hover 34 = .ok (.iload_n 1, 1) := by decide +kernel
theorem dX12_hover_35 : decode cX12_hover 35 = .ok (.istore 6, 2) := by decide +kernel
theorem dX12_hover_37 : decode cX12_hover 37 = .ok (.iload 6, 2) := by decide +kernel
theorem dX12_hover_39 : decode cX12_hover 39 = .ok (.iload_n 2, 1) := by decide +kernel
theorem dX12_hover_40 : decode cX12_hover 40 = .ok (.if_icmp .gt 41, 3) := by decide +kernel
theorem dX12_hover_43 : decode cX12_hover 43 = .ok (.aload_n 0, 1) := by decide +kernel
theorem dX12_hover_44 : decode cX12_hover 44 = .ok (.iload 6, 2) := by decide +kernel
theorem dX12_hover_46 : decode cX12_hover 46 = .ok (.invokevirtual 207, 3) := by decide +kernel
theorem dX12_hover_49 : decode cX12_hover 49 = .ok (.ifCond .ne 6, 3) := by decide +kernel
theorem dX12_hover_52 : decode cX12_hover 52 = .ok (.goto 23, 3) := by decide +kernel
theorem dX12_hover_55 : decode cX12_hover 55 = .ok (.iload_n 3, 1) := by decide +kernel
theorem dX12_hover_56 : decode cX12_hover 56 = .ok (.ifCond .ne 8, 3) := by decide +kernel
theorem dX12_hover_59 : decode cX12_hover 59 = .ok (.iload 6, 2) := by decide +kernel
theorem dX12_hover_61 : decode cX12_hover 61 = .ok (.goto 5, 3) := by decide +kernel
theorem dX12_hover_64 : decode cX12_hover 64 = .ok (.iload 4, 2) := by decide +kernel
theorem dX12_hover_66 : decode cX12_hover 66 = .ok (.istore 4, 2) := by decide +kernel
theorem dX12_hover_68 : decode cX12_hover 68 = .ok (.iload 6, 2) := by decide +kernel
theorem dX12_hover_70 : decode cX12_hover 70 = .ok (.istore 5, 2) := by decide +kernel
theorem dX12_hover_72 : decode cX12_hover 72 = .ok (.iinc 3 1, 3) := by decide +kernel
theorem dX12_hover_75 : decode cX12_hover 75 = .ok (.iinc 6 1, 3) := by decide +kernel
theorem dX12_hover_78 : decode cX12_hover 78 = .ok (.goto (-41), 3) := by decide +kernel
theorem dX12_hover_81 : decode cX12_hover 81 = .ok (.aload_n 0, 1) := by decide +kernel
theorem dX12_hover_82 : decode cX12_hover 82 = .ok (.iconst 0, 1) := by decide +kernel
theorem dX12_hover_83 : decode cX12_hover 83 = .ok (.putfield 136, 3) := by decide +kernel
theorem dX12_hover_86 : decode cX12_hover 86 = .ok (.iload_n 3, 1) := by decide +kernel
theorem dX12_hover_87 : decode cX12_hover 87 = .ok (.ifCond .le 15, 3) := by decide +kernel
theorem dX12_hover_90 : decode cX12_hover 90 = .ok (.aload_n 0, 1) := by decide +kernel
theorem dX12_hover_91 : decode cX12_hover 91 = .ok (.iload 4, 2) := by decide +kernel
theorem dX12_hover_93 : decode cX12_hover 93 = .ok (.invokevirtual 210, 3) := by decide +kernel
theorem dX12_hover_96 : decode cX12_hover 96 = .ok (.aload_n 0, 1) := by decide +kernel
theorem dX12_hover_97 : decode cX12_hover 97 = .ok (.iload 5, 2) := by decide +kernel
theorem dX12_hover_99 : decode cX12_hover 99 = .ok (.invokevirtual 210, 3) := by decide +kernel
theorem dX12_hover_102 : decode cX12_hover 102 = .ok (.iload_n 3, 1) := by decide +kernel
theorem dX12_hover_103 : decode cX12_hover 103 = .ok (.ireturn, 1) := by decide +kernel
theorem dX12_sign_0 : decode cX12_sign 0 = .ok (.aload_n 0, 1) := by decide +kernel
theorem dX12_sign_1 : decode cX12_sign 1 = .ok (.iconst 0, 1) := by decide +kernel
theorem dX12_sign_2 : decode cX12_sign 2 = .ok (.putfield 133, 3) := by decide +kernel
theorem dX12_sign_5 : decode cX12_sign 5 = .ok (.aload_n 0, 1) := by decide +kernel
theorem dX12_sign_6 : decode cX12_sign 6 = .ok (.getfield 214, 3) := by decide +kernel
theorem dX12_sign_9 : decode cX12_sign 9 = .ok (.iconst 4, 1) := by decide +kernel
theorem dX12_sign_10 : decode cX12_sign 10 = .ok (.iadd, 1) := by decide +kernel
theorem dX12_sign_11 : decode cX12_sign 11 = .ok (.bipush 80, 2) := by decide +kernel
theorem dX12_sign_13 : decode cX12_sign 13 = .ok (.if_icmp .le 5, 3) := by decide +kernel
theorem dX12_sign_16 : decode cX12_sign 16 = .ok (.iconst (-1), 1) := by decide +kernel
theorem dX12_sign_17 : decode cX12_sign 17 = .ok (.ireturn, 1) := by decide +kernel
theorem dX12_sign_18 : decode cX12_sign 18 = .ok (.iconst 3, 1) := by decide +kernel
theorem dX12_sign_19 : decode cX12_sign 19 = .ok (.istore_n 2, 1) := by decide +kernel
theorem dX12_sign_20 : decode cX12_sign 20 = .ok (.iload_n 2, 1) := by decide +kernel
theorem dX12_sign_21 : decode cX12_sign 21 = .ok (.ifCond .lt 32, 3) := by decide +kernel
theorem dX12_sign_24 : decode cX12_sign 24 = .ok (.aload_n 0, 1) := by decide +kernel
theorem dX12_sign_25 : decode cX12_sign 25 = .ok (.getfield 41, 3) := by decide +kernel
theorem dX12_sign_28 : decode cX12_sign 28 = .ok (.aload_n 0, 1) := by decide +kernel
theorem dX12_sign_29 : decode cX12_sign 29 = .ok (.dup, 1) := by decide +kernel
theorem dX12_sign_30 : decode cX12_sign 30 = .ok (.getfield 214, 3) := by decide +kernel
theorem dX12_sign_33 : decode cX12_sign 33 = .ok (.dup_x1, 1) := by decide +kernel
theorem dX12_sign_34 : decode cX12_sign 34 = .ok (.iconst 1, 1) := by decide +kernel
theorem dX12_sign_35 : decode cX12_sign 35 = .ok (.iadd, 1) := by decide +kernel
theorem dX12_sign_36 : decode cX12_sign 36 = .ok (.putfield 214, 3) := by decide +kernel
theorem dX12_sign_39 : decode cX12_sign 39 = .ok (.iload_n 1, 1) := by decide +kernel
theorem dX12_sign_40 : decode cX12_sign 40 = .ok (.bipush 8, 2) := by decide +kernel
theorem dX12_sign_42 : decode cX12_sign 42 = .ok (.iload_n 2, 1) := by decide +kernel
theorem dX12_sign_43 : decode cX12_sign 43 = .ok (.imul, 1) := by decide +kernel
theorem dX12_sign_44 : decode cX12_sign 44 = .ok (.ishr, 1) := by decide +kernel
theorem dX12_sign_45 : decode cX12_sign 45 = .ok (.i2b, 1) := by decide +kernel
theorem dX12_sign_46 : decode cX12_sign 46 = .ok (.bastore, 1) := by decide +kernel
theorem dX12_sign_47 : decode cX12_sign 47 = .ok (.iinc 2 (-1), 3) := by decide +kernel
theorem dX12_sign_50 : decode cX12_sign 50 = .ok (.goto (-30), 3) := by decide +kernel
theorem dX12_sign_53 : decode cX12_sign 53 = .ok (.aload_n 0, 1) := by decide +kernel
theorem dX12_sign_54 : decode cX12_sign 54 = .ok (.getfield 214, 3) := by decide +kernel
theorem dX12_sign_57 : decode cX12_sign 57 = .ok (.ireturn, 1) := by decide +kernel
theorem dX12_end_0 : decode cX12_end 0 = .ok (.aload_n 0, 1) := by decide +kernel
theorem dX12_end_1 : decode cX12_end 1 = .ok (.iconst 0, 1) := by decide +kernel
theorem dX12_end_2 : decode cX12_end 2 = .ok (.putfield 133, 3) := by decide +kernel
theorem dX12_end_5 : decode cX12_end 5 = .ok (.iload_n 1, 1) := by decide +kernel
theorem dX12_end_6 : decode cX12_end 6 = .ok (.iconst 0, 1) := by decide +kernel
theorem dX12_end_7 : decode cX12_end 7 = .ok (.aload_n 0, 1) := by decide +kernel
theorem dX12_end_8 : decode cX12_end 8 = .ok (.getfield 214, 3) := by decide +kernel
theorem dX12_end_11 : decode cX12_end 11 = .ok (.invokestatic 142, 3) := by decide +kernel
theorem dX12_end_14 : decode cX12_end 14 = .ok (.ifCond .ne 5, 3) := by decide +kernel
theorem dX12_end_17 : decode cX12_end 17 = .ok (.iconst 0, 1) := by decide +kernel
theorem dX12_end_18 : decode cX12_end 18 = .ok (.ireturn, 1) := by decide +kernel
theorem dX12_end_19 : decode cX12_end 19 = .ok (.aload_n 0, 1) := by decide +kernel
theorem dX12_end_20 : decode cX12_end 20 = .ok (.iload_n 1, 1) := by decide +kernel
theorem dX12_end_21 : decode cX12_end 21 = .ok (.putfield 214, 3) := by decide +kernel
theorem dX12_end_24 : decode cX12_end 24 = .ok (.iconst 1, 1) := by decide +kernel
theorem dX12_end_25 : decode cX12_end 25 = .ok (.ireturn, 1) := by decide +kernel
theorem dX12_here_0 : decode cX12_here 0 = .ok (.aload_n 0, 1) := by decide +kernel
theorem dX12_here_1 : decode cX12_here 1 = .ok (.getfield 217, 3) := by decide +kernel
theorem dX12_here_4 : decode cX12_here 4 = .ok (.aload_n 0, 1) := by decide +kernel
theorem dX12_here_5 : decode cX12_here 5 = .ok (.getfield 220, 3) := by decide +kernel
theorem dX12_here_8 : decode cX12_here 8 = .ok (.if_icmp .ge 26, 3) := by decide +kernel
theorem dX12_here_11 : decode cX12_here 11 = .ok (.aload_n 0, 1) := by decide +kernel
theorem dX12_here_12 : decode cX12_here 12 = .ok (.getfield 217, 3) := by decide +kernel
theorem dX12_here_15 : decode cX12_here 15 = .ok (.aload_n 0, 1) := by decide +kernel
theorem dX12_here_16 : decode cX12_here 16 = .ok (.getfield 223, 3) := by decide +kernel
theorem dX12_here_19 : decode cX12_here 19 = .ok (.if_icmp .ge 15, 3) := by decide +kernel
theorem dX12_here_22 : decode cX12_here 22 = .ok (.aload_n 0, 1) := by decide +kernel
theorem dX12_here_23 : decode cX12_here 23 = .ok (.getfield 226, 3) := by decide +kernel
theorem dX12_here_26 : decode cX12_here 26 = .ok (.aload_n 0, 1) := by decide +kernel
theorem dX12_here_27 : decode cX12_here 27 = .ok (.getfield 217, 3) := by decide +kernel
theorem dX12_here_30 : decode cX12_here 30 = .ok (.baload, 1) := by decide +kernel
theorem dX12_here_31 : decode cX12_here 31 = .ok (.goto 4, 3) := by decide +kernel
theorem dX12_here_34 : decode cX12_here 34 = .ok (.iconst (-1), 1) := by decide +kernel
theorem dX12_here_35 : decode cX12_here 35 = .ok (.ireturn, 1) := by decide +kernel
theorem dX12_fine_0 : decode cX12_fine 0 = .ok (.aload_n 0, 1) := by decide +kernel
theorem dX12_fine_1 : decode cX12_fine 1 = .ok (.getfield 229, 3) := by decide +kernel
theorem dX12_fine_4 : decode cX12_fine 4 = .ok (.iconst (-1), 1) := by decide +kernel
theorem dX12_fine_5 : decode cX12_fine 5 = .ok (.if_icmp .ne 7, 3) := by decide +kernel
theorem dX12_fine_8 : decode cX12_fine 8 = .ok (.iconst 1, 1) := by decide +kernel
theorem dX12_fine_9 : decode cX12_fine 9 = .ok (.goto 4, 3) := by decide +kernel
theorem dX12_fine_12 : decode cX12_fine 12 = .ok (.iconst 0, 1) := by decide +kernel
theorem dX12_fine_13 : decode cX12_fine 13 = .ok (.ireturn, 1) := by decide +kernel
theorem dX12_fault_0 : decode cX12_fault 0 = .ok (.aload_n 0, 1) := by decide +kernel
theorem dX12_fault_1 : decode cX12_fault 1 = .ok (.invokevirtual 232, 3) := by decide +kernel
theorem dX12_fault_4 : decode cX12_fault 4 = .ok (.ifCond .eq 8, 3) := by decide +kernel
theorem dX12_fault_7 : decode cX12_fault 7 = .ok (.aload_n 0, 1) := by decide +kernel
theorem dX12_fault_8 : decode cX12_fault 8 = .ok (.iload_n 1, 1) := by decide +kernel
theorem dX12_fault_9 : decode cX12_fault 9 = .ok (.putfield 229, 3) := by decide +kernel
theorem dX12_fault_12 : decode cX12_fault 12 = .ok (.return_, 1) := by decide +kernel
theorem dX12_passes_0 : decode cX12_passes 0 = .ok (.aload_n 0, 1) := by decide +kernel
theorem dX12_passes_1 : decode cX12_passes 1 = .ok (.invokevirtual 232, 3) := by decide +kernel
theorem dX12_passes_4 : decode cX12_passes 4 = .ok (.ifCond .eq 11, 3) := by decide +kernel
theorem dX12_passes_7 : decode cX12_passes 7 = .ok (.aload_n 0, 1) := by decide +kernel
theorem dX12_passes_8 : decode cX12_passes 8 = .ok (.invokevirtual 236, 3) := by decide +kernel
theorem dX12_passes_11 : decode cX12_passes 11 = .ok (.iload_n 1, 1) := by decide +kernel
theorem dX12_passes_12 : decode cX12_passes 12 = .ok (.if_icmp .eq 5, 3) := by decide +kernel
theorem dX12_passes_15 : decode cX12_passes 15 = .ok (.iconst 0, 1) := by decide +kernel
theorem dX12_passes_16 : decode cX12_passes 16 = .ok (.ireturn, 1) := by decide +kernel
theorem dX12_passes_17 : decode cX12_passes 17 = .ok (.aload_n 0, 1) := by decide +kernel
theorem dX12_passes_18 : decode cX12_passes 18 = .ok (.dup, 1) := by decide +kernel
theorem dX12_passes_19 : decode cX12_passes 19 = .ok (.getfield 217, 3) := by decide +kernel
theorem dX12_passes_22 : decode cX12_passes 22 = .ok (.iconst 1, 1) := by decide +kernel
theorem dX12_passes_23 : decode cX12_passes 23 = .ok (.iadd, 1) := by decide +kernel
theorem dX12_passes_24 : decode cX12_passes 24 = .ok (.putfield 217, 3) := by decide +kernel
theorem dX12_passes_27 : decode cX12_passes 27 = .ok (.iconst 1, 1) := by decide +kernel
theorem dX12_passes_28 : decode cX12_passes 28 = .ok (.ireturn, 1) := by decide +kernel
theorem dX12_need_0 : decode cX12_need 0 = .ok (.aload_n 0, 1) := by decide +kernel
theorem dX12_need_1 : decode cX12_need 1 = .ok (.iload_n 1, 1) := by decide +kernel
theorem dX12_need_2 : decode cX12_need 2 = .ok (.invokevirtual 239, 3) := by decide +kernel
theorem dX12_need_5 : decode cX12_need 5 = .ok (.ifCond .ne 11, 3) := by decide +kernel
theorem dX12_need_8 : decode cX12_need 8 = .ok (.aload_n 0, 1) := by decide +kernel
theorem dX12_need_9 : decode cX12_need 9 = .ok (.aload_n 0, 1) := by decide +kernel
theorem dX12_need_10 : decode cX12_need 10 = .ok (.getfield 217, 3) := by decide +kernel
theorem dX12_need_13 : decode cX12_need 13 = .ok (.invokevirtual 243, 3) := by decide +kernel
theorem dX12_need_16 : decode cX12_need 16 = .ok (.return_, 1) := by decide +kernel
theorem dX12_number_0 : decode cX12_number 0 = .ok (.aload_n 0, 1) := by decide +kernel
theorem dX12_number_1 : decode cX12_number 1 = .ok (.invokevirtual 232, 3) := by decide +kernel
theorem dX12_number_4 : decode cX12_number 4 = .ok (.ifCond .ne 5, 3) := by decide +kernel
theorem dX12_number_7 : decode cX12_number 7 = .ok (.iconst 0, 1) := by decide +kernel
theorem dX12_number_8 : decode cX12_number 8 = .ok (.ireturn, 1) := by decide +kernel
theorem dX12_number_9 : decode cX12_number 9 = .ok (.aload_n 0, 1) := by decide +kernel
theorem dX12_number_10 : decode cX12_number 10 = .ok (.getfield 217, 3) := by decide +kernel
theorem dX12_number_13 : decode cX12_number 13 = .ok (.istore_n 3, 1) := by decide +kernel
theorem dX12_number_14 : decode cX12_number 14 = .ok (.iconst 0, 1) := by decide +kernel
theorem dX12_number_15 : decode cX12_number 15 = .ok (.istore 4, 2) := by decide +kernel
theorem dX12_number_17 : decode cX12_number 17 = .ok (.aload_n 0, 1) := by decide +kernel
theorem dX12_number_18 : decode cX12_number 18 = .ok (.getfield 217, 3) := by decide +kernel
theorem dX12_number_21 : decode cX12_number 21 = .ok (.iload_n 3, 1) := by decide +kernel
theorem dX12_number_22 : decode cX12_number 22 = .ok (.iload_n 1, 1) := by decide +kernel
theorem dX12_number_23 : decode cX12_number 23 = .ok (.iadd, 1) := by decide +kernel
theorem dX12_number_24 : decode cX12_number 24 = .ok (.if_icmp .ge 45, 3) := by decide +kernel
theorem dX12_number_27 : decode cX12_number 27 = .ok (.aload_n 0, 1) := by decide +kernel
theorem dX12_number_28 : decode cX12_number 28 = .ok (.invokevirtual 236, 3) := by decide +kernel
theorem dX12_number_31 : decode cX12_number 31 = .ok (.bipush 48, 2) := by decide +kernel
theorem dX12_number_33 : decode cX12_number 33 = .ok (.bipush 57, 2) := by decide +kernel
theorem dX12_number_35 : decode cX12_number 35 = .ok (.invokestatic 142, 3) := by decide +kernel
theorem dX12_number_38 : decode cX12_number 38 = .ok (.ifCond .eq 31, 3) := by decide +kernel
theorem dX12_number_41 : decode cX12_number 41 = .ok (.bipush 10, 2) := by decide +kernel
theorem dX12_number_43 : decode cX12_number 43 = .ok (.iload 4, 2) := by decide +kernel
theorem dX12_number_45 : decode cX12_number 45 = .ok (.imul, 1) := by decide +kernel
theorem dX12_number_46 : decode cX12_number 46 = .ok (.aload_n 0, 1) := by decide +kernel
theorem dX12_number_47 : decode cX12_number 47 = .ok (.invokevirtual 236, 3) := by decide +kernel
theorem dX12_number_50 : decode cX12_number 50 = .ok (.iadd, 1) := by decide +kernel
theorem dX12_number_51 : decode cX12_number 51 = .ok (.bipush 48, 2) := by decide +kernel
theorem dX12_number_53 : decode cX12_number 53 = .ok (.isub, 1) := by decide +kernel
theorem dX12_number_54 : decode cX12_number 54 = .ok (.istore 4, 2) := by decide +kernel
theorem dX12_number_56 : decode cX12_number 56 = .ok (.aload_n 0, 1) := by decide +kernel
theorem dX12_number_57 : decode cX12_number 57 = .ok (.dup, 1) := by decide +kernel
theorem dX12_number_58 : decode cX12_number 58 = .ok (.getfield 217, 3) := by decide +kernel
theorem dX12_number_61 : decode cX12_number 61 = .ok (.iconst 1, 1) := by decide +kernel
theorem dX12_number_62 : decode cX12_number 62 = .ok (.iadd, 1) := by decide +kernel
theorem dX12_number_63 : decode cX12_number 63 = .ok (.putfield 217, 3) := by decide +kernel
theorem dX12_number_66 : decode cX12_number 66 = .ok (.goto (-49), 3) := by decide +kernel
theorem dX12_number_69 : decode cX12_number 69 = .ok (.aload_n 0, 1) := by decide +kernel
theorem dX12_number_70 : decode cX12_number 70 = .ok (.getfield 217, 3) := by decide +kernel
theorem dX12_number_73 : decode cX12_number 73 = .ok (.iload_n 3, 1) := by decide +kernel
theorem dX12_number_74 : decode cX12_number 74 = .ok (.if_icmp .ne 14, 3) := by decide +kernel
theorem dX12_number_77 : decode cX12_number 77 = .ok (.aload_n 0, 1) := by decide +kernel
theorem dX12_number_78 : decode cX12_number 78 = .ok (.aload_n 0, 1) := by decide +kernel
theorem dX12_number_79 : decode cX12_number 79 = .ok (.getfield 217, 3) := by decide +kernel
theorem dX12_number_82 : decode cX12_number 82 = .ok (.invokevirtual 243, 3) := by decide +kernel
theorem dX12_number_85 : decode cX12_number 85 = .ok (.goto 19, 3) := by decide +kernel
theorem dX12_number_88 : decode cX12_number 88 = .ok (.iload 4, 2) := by decide +kernel
theorem dX12_number_90 : decode cX12_number 90 = .ok (.iload_n 2, 1) := by decide +kernel
theorem dX12_number_91 : decode cX12_number 91 = .ok (.if_icmp .le 13, 3) := by decide +kernel
theorem dX12_number_94 : decode cX12_number 94 = .ok (.aload_n 0, 1) := by decide +kernel
theorem dX12_number_95 : decode cX12_number 95 = .ok (.aload_n 0, 1) := by decide +kernel
theorem dX12_number_96 : decode cX12_number 96 = .ok (.getfield 217, 3) := by decide +kernel
theorem dX12_number_99 : decode cX12_number 99 = .ok (.iconst 1, 1) := by decide +kernel
theorem dX12_number_100 : decode cX12_number 100 = .ok (.isub, 1) := by decide +kernel
theorem dX12_number_101 : decode cX12_number 101 = .ok (.invokevirtual 243, 3) := by decide +kernel
theorem dX12_number_104 : decode cX12_number 104 = .ok (.aload_n 0, 1) := by decide +kernel
theorem dX12_number_105 : decode cX12_number 105 = .ok (.invokevirtual 232, 3) := by decide +kernel
theorem dX12_number_108 : decode cX12_number 108 = .ok (.ifCond .eq 8, 3) := by decide +kernel
theorem dX12_number_111 : decode cX12_number 111 = .ok (.iload 4, 2) := by decide +kernel
theorem dX12_number_113 : decode cX12_number 113 = .ok (.goto 4, 3) := by decide +kernel
theorem dX12_number_116 : decode cX12_number 116 = .ok (.iconst 0, 1) := by decide +kernel
theorem dX12_number_117 : decode cX12_number 117 = .ok (.ireturn, 1) := by decide +kernel
theorem dX12_thing_0 : decode cX12_thing 0 = .ok (.aload_n 0, 1) := by decide +kernel
theorem dX12_thing_1 : decode cX12_thing 1 = .ok (.bipush 45, 2) := by decide +kernel
theorem dX12_thing_3 : decode cX12_thing 3 = .ok (.invokevirtual 239, 3) := by decide +kernel
theorem dX12_thing_6 : decode cX12_thing 6 = .ok (.ifCond .eq 10, 3) := by decide +kernel
theorem dX12_thing_9 : decode cX12_thing 9 = .ok (.aload_n 0, 1) := by decide +kernel
theorem dX12_thing_10 : decode cX12_thing 10 = .ok (.iload_n 1, 1) := by decide +kernel
theorem dX12_thing_11 : decode cX12_thing 11 = .ok (.invokevirtual 249, 3) := by decide +kernel
theorem dX12_thing_14 : decode cX12_thing 14 = .ok (.ineg, 1) := by decide +kernel
theorem dX12_thing_15 : decode cX12_thing 15 = .ok (.ireturn, 1) := by decide +kernel
theorem dX12_thing_16 : decode cX12_thing 16 = .ok (.aload_n 0, 1) := by decide +kernel
theorem dX12_thing_17 : decode cX12_thing 17 = .ok (.invokevirtual 232, 3) := by decide +kernel
theorem dX12_thing_20 : decode cX12_thing 20 = .ok (.ifCond .ne 5, 3) := by decide +kernel
theorem dX12_thing_23 : decode cX12_thing 23 = .ok (.iconst 0, 1) := by decide +kernel
theorem dX12_thing_24 : decode cX12_thing 24 = .ok (.ireturn, 1) := by decide +kernel
theorem dX12_thing_25 : decode cX12_thing 25 = .ok (.aload_n 0, 1) := by decide +kernel
theorem dX12_thing_26 : decode cX12_thing 26 = .ok (.invokevirtual 236, 3) := by decide +kernel
theorem dX12_thing_29 : decode cX12_thing 29 = .ok (.istore_n 2, 1) := by decide +kernel
theorem dX12_thing_30 : decode cX12_thing 30 = .ok (.iload_n 2, 1) := by decide +kernel
theorem dX12_thing_31 : decode cX12_thing 31 = .ok (.bipush 40, 2) := by decide +kernel
theorem dX12_thing_33 : decode cX12_thing 33 = .ok (.if_icmp .ne 34, 3) := by decide +kernel
theorem dX12_thing_36 : decode cX12_thing 36 = .ok (.iload_n 1, 1) := by decide +kernel
theorem dX12_thing_37 : decode cX12_thing 37 = .ok (.iconst 4, 1) := by decide +kernel
theorem dX12_thing_38 : decode cX12_thing 38 = .ok (.if_icmp .ge 29, 3) := by decide +kernel
theorem dX12_thing_41 : decode cX12_thing 41 = .ok (.aload_n 0, 1) := by decide +kernel
theorem dX12_thing_42 : decode cX12_thing 42 = .ok (.dup, 1) := by decide +kernel
theorem dX12_thing_43 : decode cX12_thing 43 = .ok (.getfield 217, 3) := by decide +kernel
theorem dX12_thing_46 : decode cX12_thing 46 = .ok (.iconst 1, 1) := by decide +kernel
theorem dX12_thing_47 : decode cX12_thing 47 = .ok (.iadd, 1) := by decide +kernel
theorem dX12_thing_48 : decode cX12_thing 48 = .ok (.putfield 217, 3) := by decide +kernel
theorem dX12_thing_51 : decode cX12_thing 51 = .ok (.aload_n 0, 1) := by decide +kernel
theorem dX12_thing_52 : decode cX12_thing 52 = .ok (.iload_n 1, 1) := by decide +kernel
theorem dX12_thing_53 : decode cX12_thing 53 = .ok (.iconst 1, 1) := by decide +kernel
theorem dX12_thing_54 : decode cX12_thing 54 = .ok (.iadd, 1) := by decide +kernel
theorem dX12_thing_55 : decode cX12_thing 55 = .ok (.invokevirtual 252, 3) := by decide +kernel
theorem dX12_thing_58 : decode cX12_thing 58 = .ok (.istore_n 3, 1) := by decide +kernel
theorem dX12_thing_59 : decode cX12_thing 59 = .ok (.aload_n 0, 1) := by decide +kernel
theorem dX12_thing_60 : decode cX12_thing 60 = .ok (.bipush 41, 2) := by decide +kernel
theorem dX12_thing_62 : decode cX12_thing 62 = .ok (.invokevirtual 255, 3) := by decide +kernel
theorem dX12_thing_65 : decode cX12_thing 65 = .ok (.iload_n 3, 1) := by decide +kernel
theorem dX12_thing_66 : decode cX12_thing 66 = .ok (.ireturn, 1) := by decide +kernel
theorem dX12_thing_67 : decode cX12_thing 67 = .ok (.iload_n 2, 1) := by decide +kernel
theorem dX12_thing_68 : decode cX12_thing 68 = .ok (.bipush 48, 2) := by decide +kernel
theorem dX12_thing_70 : decode cX12_thing 70 = .ok (.bipush 57, 2) := by decide +kernel
theorem dX12_thing_72 : decode cX12_thing 72 = .ok (.invokestatic 142, 3) := by decide +kernel
theorem dX12_thing_75 : decode cX12_thing 75 = .ok (.ifCond .eq 12, 3) := by decide +kernel
theorem dX12_thing_78 : decode cX12_thing 78 = .ok (.aload_n 0, 1) := by decide +kernel
theorem dX12_thing_79 : decode cX12_thing 79 = .ok (.iconst 4, 1) := by decide +kernel
theorem dX12_thing_80 : decode cX12_thing 80 = .ok (.sipush 9999, 3) := by decide +kernel
theorem dX12_thing_83 : decode cX12_thing 83 = .ok (.invokevirtual 259, 3) := by decide +kernel
theorem dX12_thing_86 : decode cX12_thing 86 = .ok (.ireturn, 1) := by decide +kernel
theorem dX12_thing_87 : decode cX12_thing 87 = .ok (.iload_n 2, 1) := by decide +kernel
theorem dX12_thing_88 : decode cX12_thing 88 = .ok (.bipush 110, 2) := by decide +kernel
theorem dX12_thing_90 : decode cX12_thing 90 = .ok (.if_icmp .ne 40, 3) := by decide +kernel
theorem dX12_thing_93 : decode cX12_thing 93 = .ok (.aload_n 0, 1) := by decide +kernel
theorem dX12_thing_94 : decode cX12_thing 94 = .ok (.dup, 1) := by decide +kernel
theorem dX12_thing_95 : decode cX12_thing 95 = .ok (.getfield 217, 3) := by decide +kernel
theorem dX12_thing_98 : decode cX12_thing 98 = .ok (.iconst 1, 1) := by decide +kernel
theorem dX12_thing_99 : decode cX12_thing 99 = .ok (.iadd, 1) := by decide +kernel
theorem dX12_thing_100 : decode cX12_thing 100 = .ok (.putfield 217, 3) := by decide +kernel
theorem dX12_thing_103 : decode cX12_thing 103 = .ok (.aload_n 0, 1) := by decide +kernel
theorem dX12_thing_104 : decode cX12_thing 104 = .ok (.iconst 2, 1) := by decide +kernel
theorem dX12_thing_105 : decode cX12_thing 105 = .ok (.bipush 15, 2) := by decide +kernel
theorem dX12_thing_107 : decode cX12_thing 107 = .ok (.invokevirtual 259, 3) := by decide +kernel
theorem dX12_thing_110 : decode cX12_thing 110 = .ok (.istore_n 3, 1) := by decide +kernel
theorem dX12_thing_111 : decode cX12_thing 111 = .ok (.aload_n 0, 1) := by decide +kernel
theorem dX12_thing_112 : decode cX12_thing 112 = .ok (.iload_n 3, 1) := by decide +kernel
theorem dX12_thing_113 : decode cX12_thing 113 = .ok (.invokevirtual 146, 3) := by decide +kernel
theorem dX12_thing_116 : decode cX12_thing 116 = .ok (.ifCond .eq 12, 3) := by decide +kernel
theorem dX12_thing_119 : decode cX12_thing 119 = .ok (.aload_n 0, 1) := by decide +kernel
theorem dX12_thing_120 : decode cX12_thing 120 = .ok (.getfield 22, 3) := by decide +kernel
theorem dX12_thing_123 : decode cX12_thing 123 = .ok (.iload_n 3, 1) := by decide +kernel
theorem dX12_thing_124 : decode cX12_thing 124 = .ok (.iaload, 1) := by decide +kernel
theorem dX12_thing_125 : decode cX12_thing 125 = .ok (.goto 4, 3) := by decide +kernel
theorem dX12_thing_128 : decode cX12_thing 128 = .ok (.iconst 0, 1) := by decide +kernel
theorem dX12_thing_129 : decode cX12_thing 129 = .ok (.ireturn, 1) := by decide +kernel
theorem dX12_thing_130 : decode cX12_thing 130 = .ok (.iload_n 2, 1) := by decide +kernel
theorem dX12_thing_131 : decode cX12_thing 131 = .ok (.bipush 104, 2) := by decide +kernel
theorem dX12_thing_133 : decode cX12_thing 133 = .ok (.if_icmp .eq 37, 3) := by decide +kernel
theorem dX12_thing_136 : decode cX12_thing 136 = .ok (.iload_n 2, 1) := by decide +kernel
theorem dX12_thing_137 : decode cX12_thing 137 = .ok (.bipush 109, 2) := by decide +kernel
theorem dX12_thing_139 : decode cX12_thing 139 = .ok (.if_icmp .eq 31, 3) := by decide +kernel
theorem dX12_thing_142 : decode cX12_thing 142 = .ok (.iload_n 2, 1) := by decide +kernel
theorem dX12_thing_143 : decode cX12_thing 143 = .ok (.bipush 108, 2) := by decide +kernel
theorem dX12_thing_145 : decode cX12_thing 145 = .ok (.if_icmp .eq 25, 3) := by decide +kernel
theorem dX12_thing_148 : decode cX12_thing 148 = .ok (.iload_n 2, 1) := by decide +kernel
theorem dX12_thing_149 : decode cX12_thing 149 = .ok (.bipush 100, 2) := by decide +kernel
theorem dX12_thing_151 : decode cX12_thing 151 = .ok (.if_icmp .eq 19, 3) := by decide +kernel
theorem dX12_thing_154 : decode cX12_thing 154 = .ok (.iload_n 2, 1) := by decide +kernel
theorem dX12_thing_155 : decode cX12_thing 155 = .ok (.bipush 119, 2) := by decide +kernel
theorem dX12_thing_157 : decode cX12_thing 157 = .ok (.if_icmp .eq 13, 3) := by decide +kernel
theorem dX12_thing_160 : decode cX12_thing 160 = .ok (.aload_n 0, 1) := by decide +kernel
theorem dX12_thing_161 : decode cX12_thing 161 = .ok (.aload_n 0, 1) := by decide +kernel
theorem dX12_thing_162 : decode cX12_thing 162 = .ok (.getfield 217, 3) := by decide +kernel
theorem dX12_thing_165 : decode cX12_thing 165 = .ok (.invokevirtual 243, 3) := by decide +kernel
theorem dX12_thing_168 : decode cX12_thing 168 = .ok (.iconst 0, 1) := by decide +kernel
theorem dX12_thing_169 : decode cX12_thing 169 = .ok (.ireturn, 1) := by decide +kernel
theorem dX12_thing_170 : decode cX12_thing 170 = .ok (.aload_n 0, 1) := by decide +kernel
theorem dX12_thing_171 : decode cX12_thing 171 = .ok (.dup, 1) := by decide +kernel
theorem dX12_thing_172 : decode cX12_thing 172 = .ok (.getfield 217, 3) := by decide +kernel
theorem dX12_thing_175 : decode cX12_thing 175 = .ok (.iconst 1, 1) := by decide +kernel
theorem dX12_thing_176 : decode cX12_thing 176 = .ok (.iadd, 1) := by decide +kernel
theorem dX12_thing_177 : decode cX12_thing 177 = .ok (.putfield 217, 3) := by decide +kernel
theorem dX12_thing_180 : decode cX12_thing 180 = .ok (.iload_n 2, 1) := by decide +kernel
theorem dX12_thing_181 : decode cX12_thing 181 = .ok (.bipush 104, 2) := by decide +kernel
theorem dX12_thing_183 : decode cX12_thing 183 = .ok (.if_icmp .ne 11, 3) := by decide +kernel
theorem dX12_thing_186 : decode cX12_thing 186 = .ok (.aload_n 0, 1) := by decide +kernel
theorem dX12_thing_187 : decode cX12_thing 187 = .ok (.iconst 0, 1) := by decide +kernel
theorem dX12_thing_188 : decode cX12_thing 188 = .ok (.invokevirtual 198, 3) := by decide +kernel
theorem dX12_thing_191 : decode cX12_thing 191 = .ok (.goto 49, 3) := by decide +kernel
theorem dX12_thing_194 : decode cX12_thing 194 = .ok (.iload_n 2, 1) := by decide +kernel
theorem dX12_thing_195 : decode cX12_thing 195 = .ok (.bipush 109, 2) := by decide +kernel
theorem dX12_thing_197 : decode cX12_thing 197 = .ok (.if_icmp .ne 11, 3) := by decide +kernel
theorem dX12_thing_200 : decode cX12_thing 200 = .ok (.aload_n 0, 1) := by decide +kernel
theorem dX12_thing_201 : decode cX12_thing 201 = .ok (.iconst 0, 1) := by decide +kernel
theorem dX12_thing_202 : decode cX12_thing 202 = .ok (.invokevirtual 204, 3) := by decide +kernel
theorem dX12_thing_205 : decode cX12_thing 205 = .ok (.goto 35, 3) := by decide +kernel
theorem dX12_thing_208 : decode cX12_thing 208 = .ok (.iload_n 2, 1) := by decide +kernel
theorem dX12_thing_209 : decode cX12_thing 209 = .ok (.bipush 108, 2) := by decide +kernel
theorem dX12_thing_211 : decode cX12_thing 211 = .ok (.if_icmp .ne 11, 3) := by decide +kernel
theorem dX12_thing_214 : decode cX12_thing 214 = .ok (.aload_n 0, 1) := by decide +kernel
theorem dX12_thing_215 : decode cX12_thing 215 = .ok (.iconst 1, 1) := by decide +kernel
theorem dX12_thing_216 : decode cX12_thing 216 = .ok (.invokevirtual 204, 3) := by decide +kernel
theorem dX12_thing_219 : decode cX12_thing 219 = .ok (.goto 21, 3) := by decide +kernel
theorem dX12_thing_222 : decode cX12_thing 222 = .ok (.iload_n 2, 1) := by decide +kernel
theorem dX12_thing_223 : decode cX12_thing 223 = .ok (.bipush 100, 2) := by decide +kernel
theorem dX12_thing_225 : decode cX12_thing 225 = .ok (.if_icmp .ne 10, 3) := by decide +kernel
theorem dX12_thing_228 : decode cX12_thing 228 = .ok (.aload_n 0, 1) := by decide +kernel
theorem dX12_thing_229 : decode cX12_thing 229 = .ok (.getfield 262, 3) := by decide +kernel
theorem dX12_thing_232 : decode cX12_thing 232 = .ok (.goto 8, 3) := by decide +kernel
theorem dX12_thing_235 : decode cX12_thing 235 = .ok (.aload_n 0, 1) := by decide +kernel
theorem dX12_thing_236 : decode cX12_thing 236 = .ok (.iconst 0, 1) := by decide +kernel
theorem dX12_thing_237 : decode cX12_thing 237 = .ok (.invokevirtual 188, 3) := by decide +kernel
theorem dX12_thing_240 : decode cX12_thing 240 = .ok (.ireturn, 1) := by decide +kernel
noncomputable def fX12_densityAt_6 : Nat → Int32 → Int32 → Int32 → HS → Option (Int32 × HS)
  | 0, _, _, _, _ => none
  | n + 1, v1, v2, v3, h => if (gI h 0 11) ≤ v3 then (some (v2, h)) else (ck (inb v3 6) (if v1 < (gI h 6 v3.toNatClampNeg) then (nm (v3 + (1 : Int32)) (fun v3_4 => fX12_densityAt_6 n v1 v2 v3_4 h)) else (ck (inb v3 6) (nm ((gI h 7 v3.toNatClampNeg)) (fun v2_6 => nm (v3 + (1 : Int32)) (fun v3_7 => fX12_densityAt_6 n v1 v2_6 v3_7 h))))))
set_option maxRecDepth 100000 in
theorem jX12_densityAt_6 {r : Int32} {h0 : HS} : ∀ (n : Nat) (v1 : Int32) (v2 : Int32) (v3 : Int32) (h : HS), fX12_densityAt_6 n v1 v2 v3 h = some (r, h0) → Jx skM RX12 cX12_densityAt 4 (some .int) 0 (some (.int r)) h0 6 [some (.ref 0), some (.int v1), some (.int v2), some (.int v3)] [] h := by
  intro n
  induction n with
  | zero => intro v1 v2 v3  h H; cases H
  | succ n ih =>
    intro v1 v2 v3  h H
    rw [fX12_densityAt_6] at H
    refine j_iload_n (pc := 6) dX12_densityAt_6 rfl ?_
    refine j_aload_n (pc := 7) dX12_densityAt_7 rfl ?_
    refine j_getI (pc := 8) dX12_densityAt_8 flX12_181 rfl ?_
    refine j_icmp_ge (pc := 11) (tgt := 37) dX12_densityAt_11 (by decide) (fun c1 => ?_) (fun c1 => ?_)
    · rw [if_pos c1] at H
      refine j_iload_n (pc := 37) dX12_densityAt_37 rfl ?_
      exact j_ireturn (pc := 38) dX12_densityAt_38 rfl (ri_1 H) (ri_2 H)
    · rw [if_neg c1] at H
      refine j_aload_n (pc := 14) dX12_densityAt_14 rfl ?_
      refine j_getR (pc := 15) (b := 6) dX12_densityAt_15 flX12_29 rfl ?_
      refine j_iload_n (pc := 18) dX12_densityAt_18 rfl ?_
      obtain ⟨b2, H⟩ := ck_x H
      refine j_iaload (pc := 19) dX12_densityAt_19 rfl b2 rfl ?_
      refine j_iload_n (pc := 20) dX12_densityAt_20 rfl ?_
      refine j_icmp_gt (pc := 21) (tgt := 31) dX12_densityAt_21 (by decide) (fun c3 => ?_) (fun c3 => ?_)
      · rw [if_pos c3] at H
        obtain ⟨v3_4, ev3_4, H⟩ := nm_x H
        refine j_iinc (pc := 31) (L' := [some (.ref 0), some (.int v1), some (.int v2), some (.int v3_4)]) (w := 1) dX12_densityAt_31 rfl (by decide) (by decide) v3_4 ev3_4 rfl ?_
        refine j_goto (pc := 34) (tgt := 6) dX12_densityAt_34 (by decide) ?_
        refine Jx.sub (L' := [some (.ref 0), some (.int v1), some (.int v2), some (.int v3_4)]) (⟨rfl, ⟨rfl, ⟨rfl, ⟨rfl, trivial⟩⟩⟩⟩) ?_
        exact ih v1 v2 v3_4 h H
      · rw [if_neg c3] at H
        refine j_aload_n (pc := 24) dX12_densityAt_24 rfl ?_
        refine j_getR (pc := 25) (b := 7) dX12_densityAt_25 flX12_32 rfl ?_
        refine j_iload_n (pc := 28) dX12_densityAt_28 rfl ?_
        obtain ⟨b5, H⟩ := ck_x H
        refine j_iaload (pc := 29) dX12_densityAt_29 rfl b5 rfl ?_
        obtain ⟨v2_6, ev2_6, H⟩ := nm_x H
        refine j_topi ev2_6 ?_
        refine j_istore_n (pc := 30) (L' := [some (.ref 0), some (.int v1), some (.int v2_6), some (.int v3)]) dX12_densityAt_30 (by decide) rfl ?_
        obtain ⟨v3_7, ev3_7, H⟩ := nm_x H
        refine j_iinc (pc := 31) (L' := [some (.ref 0), some (.int v1), some (.int v2_6), some (.int v3_7)]) (w := 1) dX12_densityAt_31 rfl (by decide) (by decide) v3_7 ev3_7 rfl ?_
        refine j_goto (pc := 34) (tgt := 6) dX12_densityAt_34 (by decide) ?_
        refine Jx.sub (L' := [some (.ref 0), some (.int v1), some (.int v2_6), some (.int v3_7)]) (⟨rfl, ⟨rfl, ⟨rfl, ⟨rfl, trivial⟩⟩⟩⟩) ?_
        exact ih v1 v2_6 v3_7 h H
noncomputable def fX12_densityAt (p1 : Int32) (h : HS) : Option (Int32 × HS) := fX12_densityAt_6 FU p1 (1000 : Int32) (0 : Int32) h
set_option maxRecDepth 100000 in
theorem tX12_densityAt {p1 : Int32} {r : Int32} {h h0 : HS} (H : fX12_densityAt p1 h = some (r, h0)) : Cn skM yX12_densityAt cX12_densityAt 4 (some .int) 0 [.ref 0, .int p1] h (some (.int r)) h0 := by
  refine Cn_of (L := [some (.ref 0), some (.int p1), none, none]) (by decide +kernel) (by simp [lg_sl, Value.category]) (fun ad => by simp [lg_sl, tv, Value.category]) (⟨rfl, ⟨rfl, trivial⟩⟩) ?_
  unfold fX12_densityAt at H
  refine j_sipush (pc := 0) (v := 1000) dX12_densityAt_0 (by decide) ?_
  refine j_istore_n (pc := 3) (L' := [some (.ref 0), some (.int p1), some (.int (1000 : Int32)), none]) dX12_densityAt_3 (by decide) rfl ?_
  refine j_iconst (pc := 4) (v := 0) dX12_densityAt_4 (by decide) ?_
  refine j_istore_n (pc := 5) (L' := [some (.ref 0), some (.int p1), some (.int (1000 : Int32)), some (.int (0 : Int32))]) dX12_densityAt_5 (by decide) rfl ?_
  refine Jx.sub (L' := [some (.ref 0), some (.int p1), some (.int (1000 : Int32)), some (.int (0 : Int32))]) (⟨rfl, ⟨rfl, ⟨rfl, ⟨rfl, trivial⟩⟩⟩⟩) ?_
  exact jX12_densityAt_6 FU p1 (1000 : Int32) (0 : Int32) h H

noncomputable def fX12_liftAt (p1 : Int32) (h : HS) : Option (Int32 × HS) := bd (fX12_densityAt p1 h) (fun r2 h1 => some (((((gI h 0 9) - (((gI h 0 10) * p1) / (10 : Int32))) * r2) / (1000 : Int32)), h1))
set_option maxRecDepth 100000 in
theorem tX12_liftAt {p1 : Int32} {r : Int32} {h h0 : HS} (H : fX12_liftAt p1 h = some (r, h0)) : Cn skM yX12_liftAt cX12_liftAt 2 (some .int) 1 [.ref 0, .int p1] h (some (.int r)) h0 := by
  refine Cn_of (L := [some (.ref 0), some (.int p1)]) (by decide +kernel) (by simp [lg_sl, Value.category]) (fun ad => by simp [lg_sl, tv, Value.category]) (⟨rfl, ⟨rfl, trivial⟩⟩) ?_
  unfold fX12_liftAt at H
  refine j_aload_n (pc := 0) dX12_liftAt_0 rfl ?_
  refine j_getI (pc := 1) dX12_liftAt_1 flX12_25 rfl ?_
  refine j_aload_n (pc := 4) dX12_liftAt_4 rfl ?_
  refine j_getI (pc := 5) dX12_liftAt_5 flX12_175 rfl ?_
  refine j_iload_n (pc := 8) dX12_liftAt_8 rfl ?_
  refine j_imul (pc := 9) dX12_liftAt_9 ?_
  refine j_bipush (pc := 10) (v := 10) dX12_liftAt_10 (by decide) ?_
  refine j_idiv (pc := 12) dX12_liftAt_12 (by decide) ?_
  refine j_isub (pc := 13) dX12_liftAt_13 ?_
  refine j_aload_n (pc := 14) dX12_liftAt_14 rfl ?_
  refine j_iload_n (pc := 15) dX12_liftAt_15 rfl ?_
  obtain ⟨r2, h1, eh1, H⟩ := bd_x H
  refine j_callV (pc := 16) dX12_liftAt_16 mlX12_188 wyX12_densityAt (tX12_densityAt eh1) (by decide) rfl rfl rfl rfl (by simp [Value.category]) rfl ?_
  refine j_imul (pc := 19) dX12_liftAt_19 ?_
  refine j_sipush (pc := 20) (v := 1000) dX12_liftAt_20 (by decide) ?_
  refine j_idiv (pc := 23) dX12_liftAt_23 (by decide) ?_
  exact j_ireturn (pc := 24) dX12_liftAt_24 rfl (ri_1 H) (ri_2 H)

noncomputable def fX12_weight_7 : Nat → Int32 → Int32 → HS → Option (Int32 × HS)
  | 0, _, _, _ => none
  | n + 1, v1, v2, h => if (gI h 0 0) ≤ v2 then (some (v1, h)) else (ck (inb v2 15) (nm ((v1 + (gI h 5 v2.toNatClampNeg))) (fun v1_4 => nm (v2 + (1 : Int32)) (fun v2_5 => fX12_weight_7 n v1_4 v2_5 h))))
set_option maxRecDepth 100000 in
theorem jX12_weight_7 {r : Int32} {h0 : HS} : ∀ (n : Nat) (v1 : Int32) (v2 : Int32) (h : HS), fX12_weight_7 n v1 v2 h = some (r, h0) → Jx skM RX12 cX12_weight 3 (some .int) 0 (some (.int r)) h0 7 [some (.ref 0), some (.int v1), some (.int v2)] [] h := by
  intro n
  induction n with
  | zero => intro v1 v2  h H; cases H
  | succ n ih =>
    intro v1 v2  h H
    rw [fX12_weight_7] at H
    refine j_iload_n (pc := 7) dX12_weight_7 rfl ?_
    refine j_aload_n (pc := 8) dX12_weight_8 rfl ?_
    refine j_getI (pc := 9) dX12_weight_9 flX12_139 rfl ?_
    refine j_icmp_ge (pc := 12) (tgt := 30) dX12_weight_12 (by decide) (fun c2 => ?_) (fun c2 => ?_)
    · rw [if_pos c2] at H
      refine j_iload_n (pc := 30) dX12_weight_30 rfl ?_
      exact j_ireturn (pc := 31) dX12_weight_31 rfl (ri_1 H) (ri_2 H)
    · rw [if_neg c2] at H
      refine j_iload_n (pc := 15) dX12_weight_15 rfl ?_
      refine j_aload_n (pc := 16) dX12_weight_16 rfl ?_
      refine j_getR (pc := 17) (b := 5) dX12_weight_17 flX12_22 rfl ?_
      refine j_iload_n (pc := 20) dX12_weight_20 rfl ?_
      obtain ⟨b3, H⟩ := ck_x H
      refine j_iaload (pc := 21) dX12_weight_21 rfl b3 rfl ?_
      refine j_iadd (pc := 22) dX12_weight_22 ?_
      obtain ⟨v1_4, ev1_4, H⟩ := nm_x H
      refine j_topi ev1_4 ?_
      refine j_istore_n (pc := 23) (L' := [some (.ref 0), some (.int v1_4), some (.int v2)]) dX12_weight_23 (by decide) rfl ?_
      obtain ⟨v2_5, ev2_5, H⟩ := nm_x H
      refine j_iinc (pc := 24) (L' := [some (.ref 0), some (.int v1_4), some (.int v2_5)]) (w := 1) dX12_weight_24 rfl (by decide) (by decide) v2_5 ev2_5 rfl ?_
      refine j_goto (pc := 27) (tgt := 7) dX12_weight_27 (by decide) ?_
      refine Jx.sub (L' := [some (.ref 0), some (.int v1_4), some (.int v2_5)]) (⟨rfl, ⟨rfl, ⟨rfl, trivial⟩⟩⟩) ?_
      exact ih v1_4 v2_5 h H
noncomputable def fX12_weight (h : HS) : Option (Int32 × HS) := nm ((gI h 0 6)) (fun v1_1 => fX12_weight_7 FU v1_1 (0 : Int32) h)
set_option maxRecDepth 100000 in
theorem tX12_weight {r : Int32} {h h0 : HS} (H : fX12_weight h = some (r, h0)) : Cn skM yX12_weight cX12_weight 3 (some .int) 0 [.ref 0] h (some (.int r)) h0 := by
  refine Cn_of (L := [some (.ref 0), none, none]) (by decide +kernel) (by simp [lg_sl, Value.category]) (fun ad => by simp [lg_sl, tv, Value.category]) (⟨rfl, trivial⟩) ?_
  unfold fX12_weight at H
  refine j_aload_n (pc := 0) dX12_weight_0 rfl ?_
  refine j_getI (pc := 1) dX12_weight_1 flX12_166 rfl ?_
  obtain ⟨v1_1, ev1_1, H⟩ := nm_x H
  refine j_topi ev1_1 ?_
  refine j_istore_n (pc := 4) (L' := [some (.ref 0), some (.int v1_1), none]) dX12_weight_4 (by decide) rfl ?_
  refine j_iconst (pc := 5) (v := 0) dX12_weight_5 (by decide) ?_
  refine j_istore_n (pc := 6) (L' := [some (.ref 0), some (.int v1_1), some (.int (0 : Int32))]) dX12_weight_6 (by decide) rfl ?_
  refine Jx.sub (L' := [some (.ref 0), some (.int v1_1), some (.int (0 : Int32))]) (⟨rfl, ⟨rfl, ⟨rfl, trivial⟩⟩⟩) ?_
  exact jX12_weight_7 FU v1_1 (0 : Int32) h H

noncomputable def fX12_heavyAt (p1 : Int32) (h : HS) : Option (Int32 × HS) := bd (fX12_weight h) (fun r2 h1 => bd (fX12_liftAt p1 h1) (fun r4 h3 => some ((r2 - r4), h3)))
set_option maxRecDepth 100000 in
theorem tX12_heavyAt {p1 : Int32} {r : Int32} {h h0 : HS} (H : fX12_heavyAt p1 h = some (r, h0)) : Cn skM yX12_heavyAt cX12_heavyAt 2 (some .int) 2 [.ref 0, .int p1] h (some (.int r)) h0 := by
  refine Cn_of (L := [some (.ref 0), some (.int p1)]) (by decide +kernel) (by simp [lg_sl, Value.category]) (fun ad => by simp [lg_sl, tv, Value.category]) (⟨rfl, ⟨rfl, trivial⟩⟩) ?_
  unfold fX12_heavyAt at H
  refine j_aload_n (pc := 0) dX12_heavyAt_0 rfl ?_
  obtain ⟨r2, h1, eh1, H⟩ := bd_x H
  refine j_callV (pc := 1) dX12_heavyAt_1 mlX12_192 wyX12_weight (tX12_weight eh1) (by decide) rfl rfl rfl rfl (by simp [Value.category]) rfl ?_
  refine j_aload_n (pc := 4) dX12_heavyAt_4 rfl ?_
  refine j_iload_n (pc := 5) dX12_heavyAt_5 rfl ?_
  obtain ⟨r4, h3, eh3, H⟩ := bd_x H
  refine j_callV (pc := 6) dX12_heavyAt_6 mlX12_195 wyX12_liftAt (tX12_liftAt eh3) (by decide) rfl rfl rfl rfl (by simp [Value.category]) rfl ?_
  refine j_isub (pc := 9) dX12_heavyAt_9 ?_
  exact j_ireturn (pc := 10) dX12_heavyAt_10 rfl (ri_1 H) (ri_2 H)

noncomputable def fX12_momentOf_46 (k18 : Int32 → Int32 → Int32 → HS → Option (Int32 × HS)) (v1 : Int32) (v3 : Int32) (s1 : Int32) (s0 : Int32) (h : HS) : Option (Int32 × HS) := ck (inb v3 15) (nm ((s0 + (s1 * (gI h 5 v3.toNatClampNeg)))) (fun v2_7 => nm (v3 + (1 : Int32)) (fun v3_8 => k18 v1 v2_7 v3_8 h)))
set_option maxRecDepth 100000 in
theorem jX12_momentOf_46 {r : Int32} {h0 : HS} (k18 : Int32 → Int32 → Int32 → HS → Option (Int32 × HS)) (hk18 : ∀ (v1 : Int32) (v2 : Int32) (v3 : Int32) (h : HS), k18 v1 v2 v3 h = some (r, h0) → Jx skM RX12 cX12_momentOf 4 (some .int) 0 (some (.int r)) h0 18 [some (.ref 0), some (.int v1), some (.int v2), some (.int v3)] [] h) (v1 : Int32) (v3 : Int32) (s1 : Int32) (s0 : Int32) (h : HS) (H : fX12_momentOf_46 k18 v1 v3 s1 s0 h = some (r, h0)) : Jx skM RX12 cX12_momentOf 4 (some .int) 0 (some (.int r)) h0 46 [some (.ref 0), some (.int v1), none, some (.int v3)] [.int s1, .int s0] h := by
  unfold fX12_momentOf_46 at H
  refine j_aload_n (pc := 46) dX12_momentOf_46 rfl ?_
  refine j_getR (pc := 47) (b := 5) dX12_momentOf_47 flX12_22 rfl ?_
  refine j_iload_n (pc := 50) dX12_momentOf_50 rfl ?_
  obtain ⟨b6, H⟩ := ck_x H
  refine j_iaload (pc := 51) dX12_momentOf_51 rfl b6 rfl ?_
  refine j_imul (pc := 52) dX12_momentOf_52 ?_
  refine j_iadd (pc := 53) dX12_momentOf_53 ?_
  obtain ⟨v2_7, ev2_7, H⟩ := nm_x H
  refine j_topi ev2_7 ?_
  refine j_istore_n (pc := 54) (L' := [some (.ref 0), some (.int v1), some (.int v2_7), some (.int v3)]) dX12_momentOf_54 (by decide) rfl ?_
  obtain ⟨v3_8, ev3_8, H⟩ := nm_x H
  refine j_iinc (pc := 55) (L' := [some (.ref 0), some (.int v1), some (.int v2_7), some (.int v3_8)]) (w := 1) dX12_momentOf_55 rfl (by decide) (by decide) v3_8 ev3_8 rfl ?_
  refine j_goto (pc := 58) (tgt := 18) dX12_momentOf_58 (by decide) ?_
  refine Jx.sub (L' := [some (.ref 0), some (.int v1), some (.int v2_7), some (.int v3_8)]) (⟨rfl, ⟨rfl, ⟨rfl, ⟨rfl, trivial⟩⟩⟩⟩) ?_
  exact hk18 v1 v2_7 v3_8 h H
noncomputable def fX12_momentOf_18 : Nat → Int32 → Int32 → Int32 → HS → Option (Int32 × HS)
  | 0, _, _, _, _ => none
  | n + 1, v1, v2, v3, h => if (gI h 0 0) ≤ v3 then (some (v2, h)) else (if v1 = 0 then (ck (inb v3 15) (fX12_momentOf_46 (fX12_momentOf_18 n) v1 v3 ((gI h 2 v3.toNatClampNeg)) v2 h)) else (ck (inb v3 15) (fX12_momentOf_46 (fX12_momentOf_18 n) v1 v3 ((gI h 3 v3.toNatClampNeg)) v2 h)))
set_option maxRecDepth 100000 in
theorem jX12_momentOf_18 {r : Int32} {h0 : HS} : ∀ (n : Nat) (v1 : Int32) (v2 : Int32) (v3 : Int32) (h : HS), fX12_momentOf_18 n v1 v2 v3 h = some (r, h0) → Jx skM RX12 cX12_momentOf 4 (some .int) 0 (some (.int r)) h0 18 [some (.ref 0), some (.int v1), some (.int v2), some (.int v3)] [] h := by
  intro n
  induction n with
  | zero => intro v1 v2 v3  h H; cases H
  | succ n ih =>
    intro v1 v2 v3  h H
    rw [fX12_momentOf_18] at H
    refine j_iload_n (pc := 18) dX12_momentOf_18 rfl ?_
    refine j_aload_n (pc := 19) dX12_momentOf_19 rfl ?_
    refine j_getI (pc := 20) dX12_momentOf_20 flX12_139 rfl ?_
    refine j_icmp_ge (pc := 23) (tgt := 61) dX12_momentOf_23 (by decide) (fun c2 => ?_) (fun c2 => ?_)
    · rw [if_pos c2] at H
      refine j_iload_n (pc := 61) dX12_momentOf_61 rfl ?_
      exact j_ireturn (pc := 62) dX12_momentOf_62 rfl (ri_1 H) (ri_2 H)
    · rw [if_neg c2] at H
      refine j_iload_n (pc := 26) dX12_momentOf_26 rfl ?_
      refine j_iload_n (pc := 27) dX12_momentOf_27 rfl ?_
      refine j_if_ne (pc := 28) (tgt := 40) dX12_momentOf_28 (by decide) (fun c3 => ?_) (fun c3 => ?_)
      · rw [if_neg c3] at H
        refine j_aload_n (pc := 40) dX12_momentOf_40 rfl ?_
        refine j_getR (pc := 41) (b := 3) dX12_momentOf_41 flX12_16 rfl ?_
        refine j_iload_n (pc := 44) dX12_momentOf_44 rfl ?_
        obtain ⟨b4, H⟩ := ck_x H
        refine j_iaload (pc := 45) dX12_momentOf_45 rfl b4 rfl ?_
        refine Jx.sub (L' := [some (.ref 0), some (.int v1), none, some (.int v3)]) (⟨rfl, ⟨rfl, ⟨rfl, trivial⟩⟩⟩) ?_
        exact jX12_momentOf_46 _ ih v1 v3 ((gI h 3 v3.toNatClampNeg)) v2 h H
      · rw [if_pos c3] at H
        refine j_aload_n (pc := 31) dX12_momentOf_31 rfl ?_
        refine j_getR (pc := 32) (b := 2) dX12_momentOf_32 flX12_13 rfl ?_
        refine j_iload_n (pc := 35) dX12_momentOf_35 rfl ?_
        obtain ⟨b5, H⟩ := ck_x H
        refine j_iaload (pc := 36) dX12_momentOf_36 rfl b5 rfl ?_
        refine j_goto (pc := 37) (tgt := 46) dX12_momentOf_37 (by decide) ?_
        refine Jx.sub (L' := [some (.ref 0), some (.int v1), none, some (.int v3)]) (⟨rfl, ⟨rfl, ⟨rfl, trivial⟩⟩⟩) ?_
        exact jX12_momentOf_46 _ ih v1 v3 ((gI h 2 v3.toNatClampNeg)) v2 h H
noncomputable def fX12_momentOf_15 (v1 : Int32) (s0 : Int32) (h : HS) : Option (Int32 × HS) := fX12_momentOf_18 FU v1 s0 (0 : Int32) h
set_option maxRecDepth 100000 in
theorem jX12_momentOf_15 {r : Int32} {h0 : HS} (v1 : Int32) (s0 : Int32) (h : HS) (H : fX12_momentOf_15 v1 s0 h = some (r, h0)) : Jx skM RX12 cX12_momentOf 4 (some .int) 0 (some (.int r)) h0 15 [some (.ref 0), some (.int v1), none, none] [.int s0] h := by
  unfold fX12_momentOf_15 at H
  refine j_istore_n (pc := 15) (L' := [some (.ref 0), some (.int v1), some (.int s0), none]) dX12_momentOf_15 (by decide) rfl ?_
  refine j_iconst (pc := 16) (v := 0) dX12_momentOf_16 (by decide) ?_
  refine j_istore_n (pc := 17) (L' := [some (.ref 0), some (.int v1), some (.int s0), some (.int (0 : Int32))]) dX12_momentOf_17 (by decide) rfl ?_
  refine Jx.sub (L' := [some (.ref 0), some (.int v1), some (.int s0), some (.int (0 : Int32))]) (⟨rfl, ⟨rfl, ⟨rfl, ⟨rfl, trivial⟩⟩⟩⟩) ?_
  exact jX12_momentOf_18 FU v1 s0 (0 : Int32) h H
noncomputable def fX12_momentOf (p1 : Int32) (h : HS) : Option (Int32 × HS) := if p1 = 0 then (fX12_momentOf_15 p1 ((gI h 0 7)) h) else (fX12_momentOf_15 p1 ((gI h 0 8)) h)
set_option maxRecDepth 100000 in
theorem tX12_momentOf {p1 : Int32} {r : Int32} {h h0 : HS} (H : fX12_momentOf p1 h = some (r, h0)) : Cn skM yX12_momentOf cX12_momentOf 4 (some .int) 0 [.ref 0, .int p1] h (some (.int r)) h0 := by
  refine Cn_of (L := [some (.ref 0), some (.int p1), none, none]) (by decide +kernel) (by simp [lg_sl, Value.category]) (fun ad => by simp [lg_sl, tv, Value.category]) (⟨rfl, ⟨rfl, trivial⟩⟩) ?_
  unfold fX12_momentOf at H
  refine j_iload_n (pc := 0) dX12_momentOf_0 rfl ?_
  refine j_if_ne (pc := 1) (tgt := 11) dX12_momentOf_1 (by decide) (fun c1 => ?_) (fun c1 => ?_)
  · rw [if_neg c1] at H
    refine j_aload_n (pc := 11) dX12_momentOf_11 rfl ?_
    refine j_getI (pc := 12) dX12_momentOf_12 flX12_172 rfl ?_
    refine Jx.sub (L' := [some (.ref 0), some (.int p1), none, none]) (⟨rfl, ⟨rfl, trivial⟩⟩) ?_
    exact jX12_momentOf_15 p1 ((gI h 0 8)) h H
  · rw [if_pos c1] at H
    refine j_aload_n (pc := 4) dX12_momentOf_4 rfl ?_
    refine j_getI (pc := 5) dX12_momentOf_5 flX12_169 rfl ?_
    refine j_goto (pc := 8) (tgt := 15) dX12_momentOf_8 (by decide) ?_
    refine Jx.sub (L' := [some (.ref 0), some (.int p1), none, none]) (⟨rfl, ⟨rfl, trivial⟩⟩) ?_
    exact jX12_momentOf_15 p1 ((gI h 0 7)) h H

noncomputable def fX12_isBalanced (p1 : Int32) (h : HS) : Option (Int32 × HS) := bd (fX12_heavyAt p1 h) (fun r2 h1 => if (gI h1 8 0) < (iabs r2) then (some ((0 : Int32), h1)) else (bd (fX12_momentOf (0 : Int32) h1) (fun r5 h4 => if (gI h4 8 1) < (iabs r5) then (some ((0 : Int32), h4)) else (bd (fX12_momentOf (1 : Int32) h4) (fun r8 h7 => if (gI h7 8 2) < (iabs r8) then (some ((0 : Int32), h7)) else (some ((1 : Int32), h7)))))))
set_option maxRecDepth 100000 in
theorem tX12_isBalanced {p1 : Int32} {r : Int32} {h h0 : HS} (H : fX12_isBalanced p1 h = some (r, h0)) : Cn skM yX12_isBalanced cX12_isBalanced 2 (some .boolean) 3 [.ref 0, .int p1] h (some (.int r)) h0 := by
  refine Cn_of (L := [some (.ref 0), some (.int p1)]) (by decide +kernel) (by simp [lg_sl, Value.category]) (fun ad => by simp [lg_sl, tv, Value.category]) (⟨rfl, ⟨rfl, trivial⟩⟩) ?_
  unfold fX12_isBalanced at H
  refine j_aload_n (pc := 0) dX12_isBalanced_0 rfl ?_
  refine j_iload_n (pc := 1) dX12_isBalanced_1 rfl ?_
  obtain ⟨r2, h1, eh1, H⟩ := bd_x H
  refine j_callV (pc := 2) dX12_isBalanced_2 mlX12_198 wyX12_heavyAt (tX12_heavyAt eh1) (by decide) rfl rfl rfl rfl (by simp [Value.category]) rfl ?_
  refine j_mabs (pc := 5) dX12_isBalanced_5 wmX12_201 (by simp [Value.category]) ?_
  refine j_aload_n (pc := 8) dX12_isBalanced_8 rfl ?_
  refine j_getR (pc := 9) (b := 8) dX12_isBalanced_9 flX12_35 rfl ?_
  refine j_iconst (pc := 12) (v := 0) dX12_isBalanced_12 (by decide) ?_
  refine j_iaload (pc := 13) (j := 0) dX12_isBalanced_13 rfl (by decide) (by decide) ?_
  refine j_icmp_gt (pc := 14) (tgt := 55) dX12_isBalanced_14 (by decide) (fun c3 => ?_) (fun c3 => ?_)
  · rw [if_pos c3] at H
    refine j_iconst (pc := 55) (v := 0) dX12_isBalanced_55 (by decide) ?_
    exact j_zreturn (pc := 56) dX12_isBalanced_56 rfl (rz0 H) (ri_2 H)
  · rw [if_neg c3] at H
    refine j_aload_n (pc := 17) dX12_isBalanced_17 rfl ?_
    refine j_iconst (pc := 18) (v := 0) dX12_isBalanced_18 (by decide) ?_
    obtain ⟨r5, h4, eh4, H⟩ := bd_x H
    refine j_callV (pc := 19) dX12_isBalanced_19 mlX12_204 wyX12_momentOf (tX12_momentOf eh4) (by decide) rfl rfl rfl rfl (by simp [Value.category]) rfl ?_
    refine j_mabs (pc := 22) dX12_isBalanced_22 wmX12_201 (by simp [Value.category]) ?_
    refine j_aload_n (pc := 25) dX12_isBalanced_25 rfl ?_
    refine j_getR (pc := 26) (b := 8) dX12_isBalanced_26 flX12_35 rfl ?_
    refine j_iconst (pc := 29) (v := 1) dX12_isBalanced_29 (by decide) ?_
    refine j_iaload (pc := 30) (j := 1) dX12_isBalanced_30 rfl (by decide) (by decide) ?_
    refine j_icmp_gt (pc := 31) (tgt := 55) dX12_isBalanced_31 (by decide) (fun c6 => ?_) (fun c6 => ?_)
    · rw [if_pos c6] at H
      refine j_iconst (pc := 55) (v := 0) dX12_isBalanced_55 (by decide) ?_
      exact j_zreturn (pc := 56) dX12_isBalanced_56 rfl (rz0 H) (ri_2 H)
    · rw [if_neg c6] at H
      refine j_aload_n (pc := 34) dX12_isBalanced_34 rfl ?_
      refine j_iconst (pc := 35) (v := 1) dX12_isBalanced_35 (by decide) ?_
      obtain ⟨r8, h7, eh7, H⟩ := bd_x H
      refine j_callV (pc := 36) dX12_isBalanced_36 mlX12_204 wyX12_momentOf (tX12_momentOf eh7) (by decide) rfl rfl rfl rfl (by simp [Value.category]) rfl ?_
      refine j_mabs (pc := 39) dX12_isBalanced_39 wmX12_201 (by simp [Value.category]) ?_
      refine j_aload_n (pc := 42) dX12_isBalanced_42 rfl ?_
      refine j_getR (pc := 43) (b := 8) dX12_isBalanced_43 flX12_35 rfl ?_
      refine j_iconst (pc := 46) (v := 2) dX12_isBalanced_46 (by decide) ?_
      refine j_iaload (pc := 47) (j := 2) dX12_isBalanced_47 rfl (by decide) (by decide) ?_
      refine j_icmp_gt (pc := 48) (tgt := 55) dX12_isBalanced_48 (by decide) (fun c9 => ?_) (fun c9 => ?_)
      · rw [if_pos c9] at H
        refine j_iconst (pc := 55) (v := 0) dX12_isBalanced_55 (by decide) ?_
        exact j_zreturn (pc := 56) dX12_isBalanced_56 rfl (rz0 H) (ri_2 H)
      · rw [if_neg c9] at H
        refine j_iconst (pc := 51) (v := 1) dX12_isBalanced_51 (by decide) ?_
        refine j_goto (pc := 52) (tgt := 56) dX12_isBalanced_52 (by decide) ?_
        exact j_zreturn (pc := 56) dX12_isBalanced_56 rfl (rz1 H) (ri_2 H)

noncomputable def fX12_heavy (p1 : Int32) (h : HS) : Option (Int32 × HS) := nm (pI h 0 22 (0 : Int32)) (fun h1 => bd (fX12_isDepth p1 h1) (fun r3 h2 => if r3 = 0 then (bd (fX12_lost h2) (fun r6 h5 => some (r6, h5))) else (bd (fX12_heavyAt p1 h2) (fun r8 h7 => some (r8, h7)))))
set_option maxRecDepth 100000 in
theorem tX12_heavy {p1 : Int32} {r : Int32} {h h0 : HS} (H : fX12_heavy p1 h = some (r, h0)) : Cn skM yX12_heavy cX12_heavy 2 (some .int) 3 [.ref 0, .int p1] h (some (.int r)) h0 := by
  refine Cn_of (L := [some (.ref 0), some (.int p1)]) (by decide +kernel) (by simp [lg_sl, Value.category]) (fun ad => by simp [lg_sl, tv, Value.category]) (⟨rfl, ⟨rfl, trivial⟩⟩) ?_
  unfold fX12_heavy at H
  refine j_aload_n (pc := 0) dX12_heavy_0 rfl ?_
  refine j_iconst (pc := 1) (v := 0) dX12_heavy_1 (by decide) ?_
  obtain ⟨h1, eh1, H⟩ := nm_x H
  refine j_putI (pc := 2) dX12_heavy_2 fpX12_133 rfl h1 eh1 ?_
  refine j_iload_n (pc := 5) dX12_heavy_5 rfl ?_
  obtain ⟨r3, h2, eh2, H⟩ := bd_x H
  refine j_callS (pc := 6) dX12_heavy_6 mlX12_178 wyX12_isDepth (tX12_isDepth eh2) (by decide) rfl (by simp [Value.category]) rfl ?_
  refine j_if_eq (pc := 9) (tgt := 20) dX12_heavy_9 (by decide) (fun c4 => ?_) (fun c4 => ?_)
  · rw [if_pos c4] at H
    refine j_aload_n (pc := 20) dX12_heavy_20 rfl ?_
    obtain ⟨r6, h5, eh5, H⟩ := bd_x H
    refine j_callV (pc := 21) dX12_heavy_21 mlX12_184 wyX12_lost (tX12_lost eh5) (by decide) rfl rfl rfl rfl (by simp [Value.category]) rfl ?_
    exact j_ireturn (pc := 24) dX12_heavy_24 rfl (ri_1 H) (ri_2 H)
  · rw [if_neg c4] at H
    refine j_aload_n (pc := 12) dX12_heavy_12 rfl ?_
    refine j_iload_n (pc := 13) dX12_heavy_13 rfl ?_
    obtain ⟨r8, h7, eh7, H⟩ := bd_x H
    refine j_callV (pc := 14) dX12_heavy_14 mlX12_198 wyX12_heavyAt (tX12_heavyAt eh7) (by decide) rfl rfl rfl rfl (by simp [Value.category]) rfl ?_
    refine j_goto (pc := 17) (tgt := 24) dX12_heavy_17 (by decide) ?_
    exact j_ireturn (pc := 24) dX12_heavy_24 rfl (ri_1 H) (ri_2 H)

noncomputable def fX12_moment (p1 : Int32) (h : HS) : Option (Int32 × HS) := nm (pI h 0 22 (0 : Int32)) (fun h1 => bd (fX12_in p1 (0 : Int32) (1 : Int32) h1) (fun r3 h2 => if r3 = 0 then (bd (fX12_lost h2) (fun r6 h5 => some (r6, h5))) else (bd (fX12_momentOf p1 h2) (fun r8 h7 => some (r8, h7)))))
set_option maxRecDepth 100000 in
theorem tX12_moment {p1 : Int32} {r : Int32} {h h0 : HS} (H : fX12_moment p1 h = some (r, h0)) : Cn skM yX12_moment cX12_moment 2 (some .int) 1 [.ref 0, .int p1] h (some (.int r)) h0 := by
  refine Cn_of (L := [some (.ref 0), some (.int p1)]) (by decide +kernel) (by simp [lg_sl, Value.category]) (fun ad => by simp [lg_sl, tv, Value.category]) (⟨rfl, ⟨rfl, trivial⟩⟩) ?_
  unfold fX12_moment at H
  refine j_aload_n (pc := 0) dX12_moment_0 rfl ?_
  refine j_iconst (pc := 1) (v := 0) dX12_moment_1 (by decide) ?_
  obtain ⟨h1, eh1, H⟩ := nm_x H
  refine j_putI (pc := 2) dX12_moment_2 fpX12_133 rfl h1 eh1 ?_
  refine j_iload_n (pc := 5) dX12_moment_5 rfl ?_
  refine j_iconst (pc := 6) (v := 0) dX12_moment_6 (by decide) ?_
  refine j_iconst (pc := 7) (v := 1) dX12_moment_7 (by decide) ?_
  obtain ⟨r3, h2, eh2, H⟩ := bd_x H
  refine j_callS (pc := 8) dX12_moment_8 mlX12_142 wyX12_in (tX12_in eh2) (by decide) rfl (by simp [Value.category]) rfl ?_
  refine j_if_eq (pc := 11) (tgt := 22) dX12_moment_11 (by decide) (fun c4 => ?_) (fun c4 => ?_)
  · rw [if_pos c4] at H
    refine j_aload_n (pc := 22) dX12_moment_22 rfl ?_
    obtain ⟨r6, h5, eh5, H⟩ := bd_x H
    refine j_callV (pc := 23) dX12_moment_23 mlX12_184 wyX12_lost (tX12_lost eh5) (by decide) rfl rfl rfl rfl (by simp [Value.category]) rfl ?_
    exact j_ireturn (pc := 26) dX12_moment_26 rfl (ri_1 H) (ri_2 H)
  · rw [if_neg c4] at H
    refine j_aload_n (pc := 14) dX12_moment_14 rfl ?_
    refine j_iload_n (pc := 15) dX12_moment_15 rfl ?_
    obtain ⟨r8, h7, eh7, H⟩ := bd_x H
    refine j_callV (pc := 16) dX12_moment_16 mlX12_204 wyX12_momentOf (tX12_momentOf eh7) (by decide) rfl rfl rfl rfl (by simp [Value.category]) rfl ?_
    refine j_goto (pc := 19) (tgt := 26) dX12_moment_19 (by decide) ?_
    exact j_ireturn (pc := 26) dX12_moment_26 rfl (ri_1 H) (ri_2 H)

noncomputable def fX12_balanced (p1 : Int32) (h : HS) : Option (Int32 × HS) := nm (pI h 0 22 (0 : Int32)) (fun h1 => bd (fX12_isDepth p1 h1) (fun r3 h2 => if r3 = 0 then (some ((-1 : Int32), h2)) else (bd (fX12_isBalanced p1 h2) (fun r6 h5 => if r6 = 0 then (some ((0 : Int32), h5)) else (some ((1 : Int32), h5))))))
set_option maxRecDepth 100000 in
theorem tX12_balanced {p1 : Int32} {r : Int32} {h h0 : HS} (H : fX12_balanced p1 h = some (r, h0)) : Cn skM yX12_balanced cX12_balanced 2 (some .int) 4 [.ref 0, .int p1] h (some (.int r)) h0 := by
  refine Cn_of (L := [some (.ref 0), some (.int p1)]) (by decide +kernel) (by simp [lg_sl, Value.category]) (fun ad => by simp [lg_sl, tv, Value.category]) (⟨rfl, ⟨rfl, trivial⟩⟩) ?_
  unfold fX12_balanced at H
  refine j_aload_n (pc := 0) dX12_balanced_0 rfl ?_
  refine j_iconst (pc := 1) (v := 0) dX12_balanced_1 (by decide) ?_
  obtain ⟨h1, eh1, H⟩ := nm_x H
  refine j_putI (pc := 2) dX12_balanced_2 fpX12_133 rfl h1 eh1 ?_
  refine j_iload_n (pc := 5) dX12_balanced_5 rfl ?_
  obtain ⟨r3, h2, eh2, H⟩ := bd_x H
  refine j_callS (pc := 6) dX12_balanced_6 mlX12_178 wyX12_isDepth (tX12_isDepth eh2) (by decide) rfl (by simp [Value.category]) rfl ?_
  refine j_if_ne (pc := 9) (tgt := 16) dX12_balanced_9 (by decide) (fun c4 => ?_) (fun c4 => ?_)
  · rw [if_neg c4] at H
    refine j_aload_n (pc := 16) dX12_balanced_16 rfl ?_
    refine j_iload_n (pc := 17) dX12_balanced_17 rfl ?_
    obtain ⟨r6, h5, eh5, H⟩ := bd_x H
    refine j_callV (pc := 18) dX12_balanced_18 mlX12_207 wyX12_isBalanced (tX12_isBalanced eh5) (by decide) rfl rfl rfl rfl (by simp [Value.category]) rfl ?_
    refine j_if_eq (pc := 21) (tgt := 28) dX12_balanced_21 (by decide) (fun c7 => ?_) (fun c7 => ?_)
    · rw [if_pos c7] at H
      refine j_iconst (pc := 28) (v := 0) dX12_balanced_28 (by decide) ?_
      exact j_ireturn (pc := 29) dX12_balanced_29 rfl (ri_1 H) (ri_2 H)
    · rw [if_neg c7] at H
      refine j_iconst (pc := 24) (v := 1) dX12_balanced_24 (by decide) ?_
      refine j_goto (pc := 25) (tgt := 29) dX12_balanced_25 (by decide) ?_
      exact j_ireturn (pc := 29) dX12_balanced_29 rfl (ri_1 H) (ri_2 H)
  · rw [if_pos c4] at H
    refine j_iconst (pc := 12) (v := -1) dX12_balanced_12 (by decide) ?_
    refine j_goto (pc := 13) (tgt := 29) dX12_balanced_13 (by decide) ?_
    exact j_ireturn (pc := 29) dX12_balanced_29 rfl (ri_1 H) (ri_2 H)

noncomputable def fX12_lies_28 : Nat → Int32 → Int32 → HS → Option (Int32 × HS)
  | 0, _, _, _ => none
  | n + 1, v2, v3, h => if v2 < v3 then (some ((-2 : Int32), h)) else (bd (fX12_heavyAt v3 h) (fun r11 h10 => if 0 < r11 then (nm (v3 + (1 : Int32)) (fun v3_13 => fX12_lies_28 n v2 v3_13 h10)) else (some (v3, h10))))
set_option maxRecDepth 100000 in
theorem jX12_lies_28 {r : Int32} {h0 : HS} : ∀ (n : Nat) (v2 : Int32) (v3 : Int32) (h : HS), fX12_lies_28 n v2 v3 h = some (r, h0) → Jx skM RX12 cX12_lies 4 (some .int) 3 (some (.int r)) h0 28 [some (.ref 0), none, some (.int v2), some (.int v3)] [] h := by
  intro n
  induction n with
  | zero => intro v2 v3  h H; cases H
  | succ n ih =>
    intro v2 v3  h H
    rw [fX12_lies_28] at H
    refine j_iload_n (pc := 28) dX12_lies_28 rfl ?_
    refine j_iload_n (pc := 29) dX12_lies_29 rfl ?_
    refine j_icmp_gt (pc := 30) (tgt := 49) dX12_lies_30 (by decide) (fun c9 => ?_) (fun c9 => ?_)
    · rw [if_pos c9] at H
      refine j_bipush (pc := 49) (v := -2) dX12_lies_49 (by decide) ?_
      exact j_ireturn (pc := 51) dX12_lies_51 rfl (ri_1 H) (ri_2 H)
    · rw [if_neg c9] at H
      refine j_aload_n (pc := 33) dX12_lies_33 rfl ?_
      refine j_iload_n (pc := 34) dX12_lies_34 rfl ?_
      obtain ⟨r11, h10, eh10, H⟩ := bd_x H
      refine j_callV (pc := 35) dX12_lies_35 mlX12_198 wyX12_heavyAt (tX12_heavyAt eh10) (by decide) rfl rfl rfl rfl (by simp [Value.category]) rfl ?_
      refine j_if_gt (pc := 38) (tgt := 43) dX12_lies_38 (by decide) (fun c12 => ?_) (fun c12 => ?_)
      · rw [if_pos c12] at H
        obtain ⟨v3_13, ev3_13, H⟩ := nm_x H
        refine j_iinc (pc := 43) (L' := [some (.ref 0), none, some (.int v2), some (.int v3_13)]) (w := 1) dX12_lies_43 rfl (by decide) (by decide) v3_13 ev3_13 rfl ?_
        refine j_goto (pc := 46) (tgt := 28) dX12_lies_46 (by decide) ?_
        refine Jx.sub (L' := [some (.ref 0), none, some (.int v2), some (.int v3_13)]) (⟨rfl, ⟨rfl, ⟨rfl, trivial⟩⟩⟩) ?_
        exact ih v2 v3_13 h10 H
      · rw [if_neg c12] at H
        refine j_iload_n (pc := 41) dX12_lies_41 rfl ?_
        exact j_ireturn (pc := 42) dX12_lies_42 rfl (ri_1 H) (ri_2 H)
noncomputable def fX12_lies (p1 : Int32) (p2 : Int32) (h : HS) : Option (Int32 × HS) := nm (pI h 0 22 (0 : Int32)) (fun h1 => bd (fX12_isDepth p1 h1) (fun r3 h2 => if r3 = 0 then (some ((-1 : Int32), h2)) else (bd (fX12_isDepth p2 h2) (fun r6 h5 => if r6 = 0 then (some ((-1 : Int32), h5)) else (if p1 ≤ p2 then (fX12_lies_28 FU p2 p1 h5) else (some ((-1 : Int32), h5)))))))
set_option maxRecDepth 100000 in
theorem tX12_lies {p1 : Int32} {p2 : Int32} {r : Int32} {h h0 : HS} (H : fX12_lies p1 p2 h = some (r, h0)) : Cn skM yX12_lies cX12_lies 4 (some .int) 3 [.ref 0, .int p1, .int p2] h (some (.int r)) h0 := by
  refine Cn_of (L := [some (.ref 0), some (.int p1), some (.int p2), none]) (by decide +kernel) (by simp [lg_sl, Value.category]) (fun ad => by simp [lg_sl, tv, Value.category]) (⟨rfl, ⟨rfl, ⟨rfl, trivial⟩⟩⟩) ?_
  unfold fX12_lies at H
  refine j_aload_n (pc := 0) dX12_lies_0 rfl ?_
  refine j_iconst (pc := 1) (v := 0) dX12_lies_1 (by decide) ?_
  obtain ⟨h1, eh1, H⟩ := nm_x H
  refine j_putI (pc := 2) dX12_lies_2 fpX12_133 rfl h1 eh1 ?_
  refine j_iload_n (pc := 5) dX12_lies_5 rfl ?_
  obtain ⟨r3, h2, eh2, H⟩ := bd_x H
  refine j_callS (pc := 6) dX12_lies_6 mlX12_178 wyX12_isDepth (tX12_isDepth eh2) (by decide) rfl (by simp [Value.category]) rfl ?_
  refine j_if_eq (pc := 9) (tgt := 24) dX12_lies_9 (by decide) (fun c4 => ?_) (fun c4 => ?_)
  · rw [if_pos c4] at H
    refine j_iconst (pc := 24) (v := -1) dX12_lies_24 (by decide) ?_
    exact j_ireturn (pc := 25) dX12_lies_25 rfl (ri_1 H) (ri_2 H)
  · rw [if_neg c4] at H
    refine j_iload_n (pc := 12) dX12_lies_12 rfl ?_
    obtain ⟨r6, h5, eh5, H⟩ := bd_x H
    refine j_callS (pc := 13) dX12_lies_13 mlX12_178 wyX12_isDepth (tX12_isDepth eh5) (by decide) rfl (by simp [Value.category]) rfl ?_
    refine j_if_eq (pc := 16) (tgt := 24) dX12_lies_16 (by decide) (fun c7 => ?_) (fun c7 => ?_)
    · rw [if_pos c7] at H
      refine j_iconst (pc := 24) (v := -1) dX12_lies_24 (by decide) ?_
      exact j_ireturn (pc := 25) dX12_lies_25 rfl (ri_1 H) (ri_2 H)
    · rw [if_neg c7] at H
      refine j_iload_n (pc := 19) dX12_lies_19 rfl ?_
      refine j_iload_n (pc := 20) dX12_lies_20 rfl ?_
      refine j_icmp_le (pc := 21) (tgt := 26) dX12_lies_21 (by decide) (fun c8 => ?_) (fun c8 => ?_)
      · rw [if_pos c8] at H
        refine j_iload_n (pc := 26) dX12_lies_26 rfl ?_
        refine j_istore_n (pc := 27) (L' := [some (.ref 0), some (.int p1), some (.int p2), some (.int p1)]) dX12_lies_27 (by decide) rfl ?_
        refine Jx.sub (L' := [some (.ref 0), none, some (.int p2), some (.int p1)]) (⟨rfl, ⟨rfl, ⟨rfl, trivial⟩⟩⟩) ?_
        exact jX12_lies_28 FU p2 p1 h5 H
      · rw [if_neg c8] at H
        refine j_iconst (pc := 24) (v := -1) dX12_lies_24 (by decide) ?_
        exact j_ireturn (pc := 25) dX12_lies_25 rfl (ri_1 H) (ri_2 H)

noncomputable def fX12_hover_66 (k37 : Int32 → Int32 → Int32 → Int32 → Int32 → HS → Option (Int32 × HS)) (v2 : Int32) (v3 : Int32) (v6 : Int32) (s0 : Int32) (h : HS) : Option (Int32 × HS) := nm (v3 + (1 : Int32)) (fun v3_19 => nm (v6 + (1 : Int32)) (fun v6_20 => k37 v2 v3_19 s0 v6 v6_20 h))
set_option maxRecDepth 100000 in
theorem jX12_hover_66 {r : Int32} {h0 : HS} (k37 : Int32 → Int32 → Int32 → Int32 → Int32 → HS → Option (Int32 × HS)) (hk37 : ∀ (v2 : Int32) (v3 : Int32) (v4 : Int32) (v5 : Int32) (v6 : Int32) (h : HS), k37 v2 v3 v4 v5 v6 h = some (r, h0) → Jx skM RX12 cX12_hover 7 (some .int) 4 (some (.int r)) h0 37 [some (.ref 0), none, some (.int v2), some (.int v3), some (.int v4), some (.int v5), some (.int v6)] [] h) (v2 : Int32) (v3 : Int32) (v6 : Int32) (s0 : Int32) (h : HS) (H : fX12_hover_66 k37 v2 v3 v6 s0 h = some (r, h0)) : Jx skM RX12 cX12_hover 7 (some .int) 4 (some (.int r)) h0 66 [some (.ref 0), none, some (.int v2), some (.int v3), none, none, some (.int v6)] [.int s0] h := by
  unfold fX12_hover_66 at H
  refine j_istore (pc := 66) (L' := [some (.ref 0), none, some (.int v2), some (.int v3), some (.int s0), none, some (.int v6)]) dX12_hover_66 (by decide) rfl ?_
  refine j_iload (pc := 68) dX12_hover_68 rfl ?_
  refine j_istore (pc := 70) (L' := [some (.ref 0), none, some (.int v2), some (.int v3), some (.int s0), some (.int v6), some (.int v6)]) dX12_hover_70 (by decide) rfl ?_
  obtain ⟨v3_19, ev3_19, H⟩ := nm_x H
  refine j_iinc (pc := 72) (L' := [some (.ref 0), none, some (.int v2), some (.int v3_19), some (.int s0), some (.int v6), some (.int v6)]) (w := 1) dX12_hover_72 rfl (by decide) (by decide) v3_19 ev3_19 rfl ?_
  obtain ⟨v6_20, ev6_20, H⟩ := nm_x H
  refine j_iinc (pc := 75) (L' := [some (.ref 0), none, some (.int v2), some (.int v3_19), some (.int s0), some (.int v6), some (.int v6_20)]) (w := 1) dX12_hover_75 rfl (by decide) (by decide) v6_20 ev6_20 rfl ?_
  refine j_goto (pc := 78) (tgt := 37) dX12_hover_78 (by decide) ?_
  refine Jx.sub (L' := [some (.ref 0), none, some (.int v2), some (.int v3_19), some (.int s0), some (.int v6), some (.int v6_20)]) (⟨rfl, ⟨rfl, ⟨rfl, ⟨rfl, ⟨rfl, ⟨rfl, trivial⟩⟩⟩⟩⟩⟩) ?_
  exact hk37 v2 v3_19 s0 v6 v6_20 h H
noncomputable def fX12_hover_37 : Nat → Int32 → Int32 → Int32 → Int32 → Int32 → HS → Option (Int32 × HS)
  | 0, _, _, _, _, _, _ => none
  | n + 1, v2, v3, v4, v5, v6, h => if v2 < v6 then (nm (pI h 0 21 (0 : Int32)) (fun h10 => if v3 ≤ 0 then (some (v3, h10)) else (bv (fX12_tell v4 h10) (fun h12 => bv (fX12_tell v5 h12) (fun h13 => some (v3, h13)))))) else (bd (fX12_isBalanced v6 h) (fun r15 h14 => if r15 = 0 then (nm (v6 + (1 : Int32)) (fun v6_18 => fX12_hover_37 n v2 v3 v4 v5 v6_18 h14)) else (if v3 = 0 then (fX12_hover_66 (fX12_hover_37 n) v2 v3 v6 v6 h14) else (fX12_hover_66 (fX12_hover_37 n) v2 v3 v6 v4 h14))))
set_option maxRecDepth 100000 in
theorem jX12_hover_37 {r : Int32} {h0 : HS} : ∀ (n : Nat) (v2 : Int32) (v3 : Int32) (v4 : Int32) (v5 : Int32) (v6 : Int32) (h : HS), fX12_hover_37 n v2 v3 v4 v5 v6 h = some (r, h0) → Jx skM RX12 cX12_hover 7 (some .int) 4 (some (.int r)) h0 37 [some (.ref 0), none, some (.int v2), some (.int v3), some (.int v4), some (.int v5), some (.int v6)] [] h := by
  intro n
  induction n with
  | zero => intro v2 v3 v4 v5 v6  h H; cases H
  | succ n ih =>
    intro v2 v3 v4 v5 v6  h H
    rw [fX12_hover_37] at H
    refine j_iload (pc := 37) dX12_hover_37 rfl ?_
    refine j_iload_n (pc := 39) dX12_hover_39 rfl ?_
    refine j_icmp_gt (pc := 40) (tgt := 81) dX12_hover_40 (by decide) (fun c9 => ?_) (fun c9 => ?_)
    · rw [if_pos c9] at H
      refine j_aload_n (pc := 81) dX12_hover_81 rfl ?_
      refine j_iconst (pc := 82) (v := 0) dX12_hover_82 (by decide) ?_
      obtain ⟨h10, eh10, H⟩ := nm_x H
      refine j_putI (pc := 83) dX12_hover_83 fpX12_136 rfl h10 eh10 ?_
      refine j_iload_n (pc := 86) dX12_hover_86 rfl ?_
      refine j_if_le (pc := 87) (tgt := 102) dX12_hover_87 (by decide) (fun c11 => ?_) (fun c11 => ?_)
      · rw [if_pos c11] at H
        refine j_iload_n (pc := 102) dX12_hover_102 rfl ?_
        exact j_ireturn (pc := 103) dX12_hover_103 rfl (ri_1 H) (ri_2 H)
      · rw [if_neg c11] at H
        refine j_aload_n (pc := 90) dX12_hover_90 rfl ?_
        refine j_iload (pc := 91) dX12_hover_91 rfl ?_
        obtain ⟨h12, eh12, H⟩ := bv_x H
        refine j_callV (pc := 93) dX12_hover_93 mlX12_210 wyX12_tell (tX12_tell eh12) (by decide) rfl rfl rfl rfl (by simp [Value.category]) rfl ?_
        refine j_aload_n (pc := 96) dX12_hover_96 rfl ?_
        refine j_iload (pc := 97) dX12_hover_97 rfl ?_
        obtain ⟨h13, eh13, H⟩ := bv_x H
        refine j_callV (pc := 99) dX12_hover_99 mlX12_210 wyX12_tell (tX12_tell eh13) (by decide) rfl rfl rfl rfl (by simp [Value.category]) rfl ?_
        refine j_iload_n (pc := 102) dX12_hover_102 rfl ?_
        exact j_ireturn (pc := 103) dX12_hover_103 rfl (ri_1 H) (ri_2 H)
    · rw [if_neg c9] at H
      refine j_aload_n (pc := 43) dX12_hover_43 rfl ?_
      refine j_iload (pc := 44) dX12_hover_44 rfl ?_
      obtain ⟨r15, h14, eh14, H⟩ := bd_x H
      refine j_callV (pc := 46) dX12_hover_46 mlX12_207 wyX12_isBalanced (tX12_isBalanced eh14) (by decide) rfl rfl rfl rfl (by simp [Value.category]) rfl ?_
      refine j_if_ne (pc := 49) (tgt := 55) dX12_hover_49 (by decide) (fun c16 => ?_) (fun c16 => ?_)
      · rw [if_neg c16] at H
        refine j_iload_n (pc := 55) dX12_hover_55 rfl ?_
        refine j_if_ne (pc := 56) (tgt := 64) dX12_hover_56 (by decide) (fun c17 => ?_) (fun c17 => ?_)
        · rw [if_neg c17] at H
          refine j_iload (pc := 64) dX12_hover_64 rfl ?_
          refine Jx.sub (L' := [some (.ref 0), none, some (.int v2), some (.int v3), none, none, some (.int v6)]) (⟨rfl, ⟨rfl, ⟨rfl, ⟨rfl, trivial⟩⟩⟩⟩) ?_
          exact jX12_hover_66 _ ih v2 v3 v6 v4 h14 H
        · rw [if_pos c17] at H
          refine j_iload (pc := 59) dX12_hover_59 rfl ?_
          refine j_goto (pc := 61) (tgt := 66) dX12_hover_61 (by decide) ?_
          refine Jx.sub (L' := [some (.ref 0), none, some (.int v2), some (.int v3), none, none, some (.int v6)]) (⟨rfl, ⟨rfl, ⟨rfl, ⟨rfl, trivial⟩⟩⟩⟩) ?_
          exact jX12_hover_66 _ ih v2 v3 v6 v6 h14 H
      · rw [if_pos c16] at H
        refine j_goto (pc := 52) (tgt := 75) dX12_hover_52 (by decide) ?_
        obtain ⟨v6_18, ev6_18, H⟩ := nm_x H
        refine j_iinc (pc := 75) (L' := [some (.ref 0), none, some (.int v2), some (.int v3), some (.int v4), some (.int v5), some (.int v6_18)]) (w := 1) dX12_hover_75 rfl (by decide) (by decide) v6_18 ev6_18 rfl ?_
        refine j_goto (pc := 78) (tgt := 37) dX12_hover_78 (by decide) ?_
        refine Jx.sub (L' := [some (.ref 0), none, some (.int v2), some (.int v3), some (.int v4), some (.int v5), some (.int v6_18)]) (⟨rfl, ⟨rfl, ⟨rfl, ⟨rfl, ⟨rfl, ⟨rfl, trivial⟩⟩⟩⟩⟩⟩) ?_
        exact ih v2 v3 v4 v5 v6_18 h14 H
noncomputable def fX12_hover (p1 : Int32) (p2 : Int32) (h : HS) : Option (Int32 × HS) := nm (pI h 0 22 (0 : Int32)) (fun h1 => bd (fX12_isDepth p1 h1) (fun r3 h2 => if r3 = 0 then (some ((-1 : Int32), h2)) else (bd (fX12_isDepth p2 h2) (fun r6 h5 => if r6 = 0 then (some ((-1 : Int32), h5)) else (if p1 ≤ p2 then (fX12_hover_37 FU p2 (0 : Int32) (-1 : Int32) (-1 : Int32) p1 h5) else (some ((-1 : Int32), h5)))))))
set_option maxRecDepth 100000 in
theorem tX12_hover {p1 : Int32} {p2 : Int32} {r : Int32} {h h0 : HS} (H : fX12_hover p1 p2 h = some (r, h0)) : Cn skM yX12_hover cX12_hover 7 (some .int) 4 [.ref 0, .int p1, .int p2] h (some (.int r)) h0 := by
  refine Cn_of (L := [some (.ref 0), some (.int p1), some (.int p2), none, none, none, none]) (by decide +kernel) (by simp [lg_sl, Value.category]) (fun ad => by simp [lg_sl, tv, Value.category]) (⟨rfl, ⟨rfl, ⟨rfl, trivial⟩⟩⟩) ?_
  unfold fX12_hover at H
  refine j_aload_n (pc := 0) dX12_hover_0 rfl ?_
  refine j_iconst (pc := 1) (v := 0) dX12_hover_1 (by decide) ?_
  obtain ⟨h1, eh1, H⟩ := nm_x H
  refine j_putI (pc := 2) dX12_hover_2 fpX12_133 rfl h1 eh1 ?_
  refine j_iload_n (pc := 5) dX12_hover_5 rfl ?_
  obtain ⟨r3, h2, eh2, H⟩ := bd_x H
  refine j_callS (pc := 6) dX12_hover_6 mlX12_178 wyX12_isDepth (tX12_isDepth eh2) (by decide) rfl (by simp [Value.category]) rfl ?_
  refine j_if_eq (pc := 9) (tgt := 24) dX12_hover_9 (by decide) (fun c4 => ?_) (fun c4 => ?_)
  · rw [if_pos c4] at H
    refine j_iconst (pc := 24) (v := -1) dX12_hover_24 (by decide) ?_
    exact j_ireturn (pc := 25) dX12_hover_25 rfl (ri_1 H) (ri_2 H)
  · rw [if_neg c4] at H
    refine j_iload_n (pc := 12) dX12_hover_12 rfl ?_
    obtain ⟨r6, h5, eh5, H⟩ := bd_x H
    refine j_callS (pc := 13) dX12_hover_13 mlX12_178 wyX12_isDepth (tX12_isDepth eh5) (by decide) rfl (by simp [Value.category]) rfl ?_
    refine j_if_eq (pc := 16) (tgt := 24) dX12_hover_16 (by decide) (fun c7 => ?_) (fun c7 => ?_)
    · rw [if_pos c7] at H
      refine j_iconst (pc := 24) (v := -1) dX12_hover_24 (by decide) ?_
      exact j_ireturn (pc := 25) dX12_hover_25 rfl (ri_1 H) (ri_2 H)
    · rw [if_neg c7] at H
      refine j_iload_n (pc := 19) dX12_hover_19 rfl ?_
      refine j_iload_n (pc := 20) dX12_hover_20 rfl ?_
      refine j_icmp_le (pc := 21) (tgt := 26) dX12_hover_21 (by decide) (fun c8 => ?_) (fun c8 => ?_)
      · rw [if_pos c8] at H
        refine j_iconst (pc := 26) (v := 0) dX12_hover_26 (by decide) ?_
        refine j_istore_n (pc := 27) (L' := [some (.ref 0), some (.int p1), some (.int p2), some (.int (0 : Int32)), none, none, none]) dX12_hover_27 (by decide) rfl ?_
        refine j_iconst (pc := 28) (v := -1) dX12_hover_28 (by decide) ?_
        refine j_istore (pc := 29) (L' := [some (.ref 0), some (.int p1), some (.int p2), some (.int (0 : Int32)), some (.int (-1 : Int32)), none, none]) dX12_hover_29 (by decide) rfl ?_
        refine j_iconst (pc := 31) (v := -1) dX12_hover_31 (by decide) ?_
        refine j_istore (pc := 32) (L' := [some (.ref 0), some (.int p1), some (.int p2), some (.int (0 : Int32)), some (.int (-1 : Int32)), some (.int (-1 : Int32)), none]) dX12_hover_32 (by decide) rfl ?_
        refine j_iload_n (pc := 34) dX12_hover_34 rfl ?_
        refine j_istore (pc := 35) (L' := [some (.ref 0), some (.int p1), some (.int p2), some (.int (0 : Int32)), some (.int (-1 : Int32)), some (.int (-1 : Int32)), some (.int p1)]) dX12_hover_35 (by decide) rfl ?_
        refine Jx.sub (L' := [some (.ref 0), none, some (.int p2), some (.int (0 : Int32)), some (.int (-1 : Int32)), some (.int (-1 : Int32)), some (.int p1)]) (⟨rfl, ⟨rfl, ⟨rfl, ⟨rfl, ⟨rfl, ⟨rfl, trivial⟩⟩⟩⟩⟩⟩) ?_
        exact jX12_hover_37 FU p2 (0 : Int32) (-1 : Int32) (-1 : Int32) p1 h5 H
      · rw [if_neg c8] at H
        refine j_iconst (pc := 24) (v := -1) dX12_hover_24 (by decide) ?_
        exact j_ireturn (pc := 25) dX12_hover_25 rfl (ri_1 H) (ri_2 H)

noncomputable def fX12_sign_20 : Nat → Int32 → Int32 → HS → Option (Int32 × HS)
  | 0, _, _, _ => none
  | n + 1, v1, v2, h => if v2 < 0 then (some ((gI h 0 19), h)) else (nm (pI h 0 19 ((gI h 0 19) + (1 : Int32))) (fun h4 => ck (inb (gI h 0 19) 80) (nm (pI h4 9 (gI h 0 19).toNatClampNeg (vp_nar .byte ((v1 >>> (((8 : Int32) * v2) &&& 31)).toInt8.toInt32))) (fun h5 => nm (v2 + (-1 : Int32)) (fun v2_7 => fX12_sign_20 n v1 v2_7 h5)))))
set_option maxRecDepth 100000 in
theorem jX12_sign_20 {r : Int32} {h0 : HS} : ∀ (n : Nat) (v1 : Int32) (v2 : Int32) (h : HS), fX12_sign_20 n v1 v2 h = some (r, h0) → Jx skM RX12 cX12_sign 3 (some .int) 0 (some (.int r)) h0 20 [some (.ref 0), some (.int v1), some (.int v2)] [] h := by
  intro n
  induction n with
  | zero => intro v1 v2  h H; cases H
  | succ n ih =>
    intro v1 v2  h H
    rw [fX12_sign_20] at H
    refine j_iload_n (pc := 20) dX12_sign_20 rfl ?_
    refine j_if_lt (pc := 21) (tgt := 53) dX12_sign_21 (by decide) (fun c3 => ?_) (fun c3 => ?_)
    · rw [if_pos c3] at H
      refine j_aload_n (pc := 53) dX12_sign_53 rfl ?_
      refine j_getI (pc := 54) dX12_sign_54 flX12_214 rfl ?_
      exact j_ireturn (pc := 57) dX12_sign_57 rfl (ri_1 H) (ri_2 H)
    · rw [if_neg c3] at H
      refine j_aload_n (pc := 24) dX12_sign_24 rfl ?_
      refine j_getR (pc := 25) (b := 9) dX12_sign_25 flX12_41 rfl ?_
      refine j_aload_n (pc := 28) dX12_sign_28 rfl ?_
      refine j_dup (pc := 29) dX12_sign_29 rfl ?_
      refine j_getI (pc := 30) dX12_sign_30 flX12_214 rfl ?_
      refine j_dup_x1 (pc := 33) dX12_sign_33 rfl rfl ?_
      refine j_iconst (pc := 34) (v := 1) dX12_sign_34 (by decide) ?_
      refine j_iadd (pc := 35) dX12_sign_35 ?_
      obtain ⟨h4, eh4, H⟩ := nm_x H
      refine j_putI (pc := 36) dX12_sign_36 fpX12_214 rfl h4 eh4 ?_
      refine j_iload_n (pc := 39) dX12_sign_39 rfl ?_
      refine j_bipush (pc := 40) (v := 8) dX12_sign_40 (by decide) ?_
      refine j_iload_n (pc := 42) dX12_sign_42 rfl ?_
      refine j_imul (pc := 43) dX12_sign_43 ?_
      refine j_ishr (pc := 44) dX12_sign_44 ?_
      refine j_i2b (pc := 45) dX12_sign_45 ?_
      obtain ⟨b6, H⟩ := ck_x H
      obtain ⟨h5, eh5, H⟩ := nm_x H
      refine j_bastore (pc := 46) dX12_sign_46 rfl b6 rfl h5 eh5 ?_
      obtain ⟨v2_7, ev2_7, H⟩ := nm_x H
      refine j_iinc (pc := 47) (L' := [some (.ref 0), some (.int v1), some (.int v2_7)]) (w := -1) dX12_sign_47 rfl (by decide) (by decide) v2_7 ev2_7 rfl ?_
      refine j_goto (pc := 50) (tgt := 20) dX12_sign_50 (by decide) ?_
      refine Jx.sub (L' := [some (.ref 0), some (.int v1), some (.int v2_7)]) (⟨rfl, ⟨rfl, ⟨rfl, trivial⟩⟩⟩) ?_
      exact ih v1 v2_7 h5 H
noncomputable def fX12_sign (p1 : Int32) (h : HS) : Option (Int32 × HS) := nm (pI h 0 22 (0 : Int32)) (fun h1 => if ((gI h1 0 19) + (4 : Int32)) ≤ (80 : Int32) then (fX12_sign_20 FU p1 (3 : Int32) h1) else (some ((-1 : Int32), h1)))
set_option maxRecDepth 100000 in
theorem tX12_sign {p1 : Int32} {r : Int32} {h h0 : HS} (H : fX12_sign p1 h = some (r, h0)) : Cn skM yX12_sign cX12_sign 3 (some .int) 0 [.ref 0, .int p1] h (some (.int r)) h0 := by
  refine Cn_of (L := [some (.ref 0), some (.int p1), none]) (by decide +kernel) (by simp [lg_sl, Value.category]) (fun ad => by simp [lg_sl, tv, Value.category]) (⟨rfl, ⟨rfl, trivial⟩⟩) ?_
  unfold fX12_sign at H
  refine j_aload_n (pc := 0) dX12_sign_0 rfl ?_
  refine j_iconst (pc := 1) (v := 0) dX12_sign_1 (by decide) ?_
  obtain ⟨h1, eh1, H⟩ := nm_x H
  refine j_putI (pc := 2) dX12_sign_2 fpX12_133 rfl h1 eh1 ?_
  refine j_aload_n (pc := 5) dX12_sign_5 rfl ?_
  refine j_getI (pc := 6) dX12_sign_6 flX12_214 rfl ?_
  refine j_iconst (pc := 9) (v := 4) dX12_sign_9 (by decide) ?_
  refine j_iadd (pc := 10) dX12_sign_10 ?_
  refine j_bipush (pc := 11) (v := 80) dX12_sign_11 (by decide) ?_
  refine j_icmp_le (pc := 13) (tgt := 18) dX12_sign_13 (by decide) (fun c2 => ?_) (fun c2 => ?_)
  · rw [if_pos c2] at H
    refine j_iconst (pc := 18) (v := 3) dX12_sign_18 (by decide) ?_
    refine j_istore_n (pc := 19) (L' := [some (.ref 0), some (.int p1), some (.int (3 : Int32))]) dX12_sign_19 (by decide) rfl ?_
    refine Jx.sub (L' := [some (.ref 0), some (.int p1), some (.int (3 : Int32))]) (⟨rfl, ⟨rfl, ⟨rfl, trivial⟩⟩⟩) ?_
    exact jX12_sign_20 FU p1 (3 : Int32) h1 H
  · rw [if_neg c2] at H
    refine j_iconst (pc := 16) (v := -1) dX12_sign_16 (by decide) ?_
    exact j_ireturn (pc := 17) dX12_sign_17 rfl (ri_1 H) (ri_2 H)

noncomputable def fX12_end (p1 : Int32) (h : HS) : Option (Int32 × HS) := nm (pI h 0 22 (0 : Int32)) (fun h1 => bd (fX12_in p1 (0 : Int32) ((gI h1 0 19)) h1) (fun r3 h2 => if r3 = 0 then (some ((0 : Int32), h2)) else (nm (pI h2 0 19 p1) (fun h5 => some ((1 : Int32), h5)))))
set_option maxRecDepth 100000 in
theorem tX12_end {p1 : Int32} {r : Int32} {h h0 : HS} (H : fX12_end p1 h = some (r, h0)) : Cn skM yX12_end cX12_end 2 (some .boolean) 1 [.ref 0, .int p1] h (some (.int r)) h0 := by
  refine Cn_of (L := [some (.ref 0), some (.int p1)]) (by decide +kernel) (by simp [lg_sl, Value.category]) (fun ad => by simp [lg_sl, tv, Value.category]) (⟨rfl, ⟨rfl, trivial⟩⟩) ?_
  unfold fX12_end at H
  refine j_aload_n (pc := 0) dX12_end_0 rfl ?_
  refine j_iconst (pc := 1) (v := 0) dX12_end_1 (by decide) ?_
  obtain ⟨h1, eh1, H⟩ := nm_x H
  refine j_putI (pc := 2) dX12_end_2 fpX12_133 rfl h1 eh1 ?_
  refine j_iload_n (pc := 5) dX12_end_5 rfl ?_
  refine j_iconst (pc := 6) (v := 0) dX12_end_6 (by decide) ?_
  refine j_aload_n (pc := 7) dX12_end_7 rfl ?_
  refine j_getI (pc := 8) dX12_end_8 flX12_214 rfl ?_
  obtain ⟨r3, h2, eh2, H⟩ := bd_x H
  refine j_callS (pc := 11) dX12_end_11 mlX12_142 wyX12_in (tX12_in eh2) (by decide) rfl (by simp [Value.category]) rfl ?_
  refine j_if_ne (pc := 14) (tgt := 19) dX12_end_14 (by decide) (fun c4 => ?_) (fun c4 => ?_)
  · rw [if_neg c4] at H
    refine j_aload_n (pc := 19) dX12_end_19 rfl ?_
    refine j_iload_n (pc := 20) dX12_end_20 rfl ?_
    obtain ⟨h5, eh5, H⟩ := nm_x H
    refine j_putI (pc := 21) dX12_end_21 fpX12_214 rfl h5 eh5 ?_
    refine j_iconst (pc := 24) (v := 1) dX12_end_24 (by decide) ?_
    exact j_zreturn (pc := 25) dX12_end_25 rfl (rz1 H) (ri_2 H)
  · rw [if_pos c4] at H
    refine j_iconst (pc := 17) (v := 0) dX12_end_17 (by decide) ?_
    exact j_zreturn (pc := 18) dX12_end_18 rfl (rz0 H) (ri_2 H)

noncomputable def fX12_here (h : HS) : Option (Int32 × HS) := if (gI h 0 27) ≤ (gI h 0 29) then (some ((-1 : Int32), h)) else (if (gI h 0 28) ≤ (gI h 0 29) then (some ((-1 : Int32), h)) else (bR (gR h 0 26) (fun q3 => bA skM 2 q3 (fun n4 => ck (inb (gI h 0 29) n4) (some ((gI h q3 (gI h 0 29).toNatClampNeg), h))))))
set_option maxRecDepth 100000 in
theorem tX12_here {r : Int32} {h h0 : HS} (H : fX12_here h = some (r, h0)) : Cn skM yX12_here cX12_here 1 (some .int) 0 [.ref 0] h (some (.int r)) h0 := by
  refine Cn_of (L := [some (.ref 0)]) (by decide +kernel) (by simp [lg_sl, Value.category]) (fun ad => by simp [lg_sl, tv, Value.category]) (⟨rfl, trivial⟩) ?_
  unfold fX12_here at H
  refine j_aload_n (pc := 0) dX12_here_0 rfl ?_
  refine j_getI (pc := 1) dX12_here_1 flX12_217 rfl ?_
  refine j_aload_n (pc := 4) dX12_here_4 rfl ?_
  refine j_getI (pc := 5) dX12_here_5 flX12_220 rfl ?_
  refine j_icmp_ge (pc := 8) (tgt := 34) dX12_here_8 (by decide) (fun c1 => ?_) (fun c1 => ?_)
  · rw [if_pos c1] at H
    refine j_iconst (pc := 34) (v := -1) dX12_here_34 (by decide) ?_
    exact j_ireturn (pc := 35) dX12_here_35 rfl (ri_1 H) (ri_2 H)
  · rw [if_neg c1] at H
    refine j_aload_n (pc := 11) dX12_here_11 rfl ?_
    refine j_getI (pc := 12) dX12_here_12 flX12_217 rfl ?_
    refine j_aload_n (pc := 15) dX12_here_15 rfl ?_
    refine j_getI (pc := 16) dX12_here_16 flX12_223 rfl ?_
    refine j_icmp_ge (pc := 19) (tgt := 34) dX12_here_19 (by decide) (fun c2 => ?_) (fun c2 => ?_)
    · rw [if_pos c2] at H
      refine j_iconst (pc := 34) (v := -1) dX12_here_34 (by decide) ?_
      exact j_ireturn (pc := 35) dX12_here_35 rfl (ri_1 H) (ri_2 H)
    · rw [if_neg c2] at H
      refine j_aload_n (pc := 22) dX12_here_22 rfl ?_
      obtain ⟨q3, eq3, H⟩ := bR_x H
      refine j_getQ (pc := 23) dX12_here_23 flX12_226 rfl eq3 ?_
      refine j_aload_n (pc := 26) dX12_here_26 rfl ?_
      refine j_getI (pc := 27) dX12_here_27 flX12_217 rfl ?_
      obtain ⟨n4, en4, H⟩ := bA_x H
      obtain ⟨b5, H⟩ := ck_x H
      refine j_baload (pc := 30) dX12_here_30 en4 b5 rfl ?_
      refine j_goto (pc := 31) (tgt := 35) dX12_here_31 (by decide) ?_
      exact j_ireturn (pc := 35) dX12_here_35 rfl (ri_1 H) (ri_2 H)

noncomputable def fX12_fine (h : HS) : Option (Int32 × HS) := if (gI h 0 30) = (-1 : Int32) then (some ((1 : Int32), h)) else (some ((0 : Int32), h))
set_option maxRecDepth 100000 in
theorem tX12_fine {r : Int32} {h h0 : HS} (H : fX12_fine h = some (r, h0)) : Cn skM yX12_fine cX12_fine 1 (some .boolean) 0 [.ref 0] h (some (.int r)) h0 := by
  refine Cn_of (L := [some (.ref 0)]) (by decide +kernel) (by simp [lg_sl, Value.category]) (fun ad => by simp [lg_sl, tv, Value.category]) (⟨rfl, trivial⟩) ?_
  unfold fX12_fine at H
  refine j_aload_n (pc := 0) dX12_fine_0 rfl ?_
  refine j_getI (pc := 1) dX12_fine_1 flX12_229 rfl ?_
  refine j_iconst (pc := 4) (v := -1) dX12_fine_4 (by decide) ?_
  refine j_icmp_ne (pc := 5) (tgt := 12) dX12_fine_5 (by decide) (fun c1 => ?_) (fun c1 => ?_)
  · rw [if_neg c1] at H
    refine j_iconst (pc := 12) (v := 0) dX12_fine_12 (by decide) ?_
    exact j_zreturn (pc := 13) dX12_fine_13 rfl (rz0 H) (ri_2 H)
  · rw [if_pos c1] at H
    refine j_iconst (pc := 8) (v := 1) dX12_fine_8 (by decide) ?_
    refine j_goto (pc := 9) (tgt := 13) dX12_fine_9 (by decide) ?_
    exact j_zreturn (pc := 13) dX12_fine_13 rfl (rz1 H) (ri_2 H)

noncomputable def fX12_fault (p1 : Int32) (h : HS) : Option HS := bd (fX12_fine h) (fun r2 h1 => if r2 = 0 then (some h1) else (nm (pI h1 0 30 p1) (fun h4 => some h4)))
set_option maxRecDepth 100000 in
theorem tX12_fault {p1 : Int32} {h h0 : HS} (H : fX12_fault p1 h = some h0) : Cn skM yX12_fault cX12_fault 2 none 1 [.ref 0, .int p1] h none h0 := by
  refine Cn_of (L := [some (.ref 0), some (.int p1)]) (by decide +kernel) (by simp [lg_sl, Value.category]) (fun ad => by simp [lg_sl, tv, Value.category]) (⟨rfl, ⟨rfl, trivial⟩⟩) ?_
  unfold fX12_fault at H
  refine j_aload_n (pc := 0) dX12_fault_0 rfl ?_
  obtain ⟨r2, h1, eh1, H⟩ := bd_x H
  refine j_callV (pc := 1) dX12_fault_1 mlX12_232 wyX12_fine (tX12_fine eh1) (by decide) rfl rfl rfl rfl (by simp [Value.category]) rfl ?_
  refine j_if_eq (pc := 4) (tgt := 12) dX12_fault_4 (by decide) (fun c3 => ?_) (fun c3 => ?_)
  · rw [if_pos c3] at H
    exact j_return (pc := 12) dX12_fault_12 rfl rfl (rv_2 H)
  · rw [if_neg c3] at H
    refine j_aload_n (pc := 7) dX12_fault_7 rfl ?_
    refine j_iload_n (pc := 8) dX12_fault_8 rfl ?_
    obtain ⟨h4, eh4, H⟩ := nm_x H
    refine j_putI (pc := 9) dX12_fault_9 fpX12_229 rfl h4 eh4 ?_
    exact j_return (pc := 12) dX12_fault_12 rfl rfl (rv_2 H)

noncomputable def fX12_passes (p1 : Int32) (h : HS) : Option (Int32 × HS) := bd (fX12_fine h) (fun r2 h1 => if r2 = 0 then (some ((0 : Int32), h1)) else (bd (fX12_here h1) (fun r5 h4 => if r5 = p1 then (nm (pI h4 0 29 ((gI h4 0 29) + (1 : Int32))) (fun h7 => some ((1 : Int32), h7))) else (some ((0 : Int32), h4)))))
set_option maxRecDepth 100000 in
theorem tX12_passes {p1 : Int32} {r : Int32} {h h0 : HS} (H : fX12_passes p1 h = some (r, h0)) : Cn skM yX12_passes cX12_passes 2 (some .boolean) 1 [.ref 0, .int p1] h (some (.int r)) h0 := by
  refine Cn_of (L := [some (.ref 0), some (.int p1)]) (by decide +kernel) (by simp [lg_sl, Value.category]) (fun ad => by simp [lg_sl, tv, Value.category]) (⟨rfl, ⟨rfl, trivial⟩⟩) ?_
  unfold fX12_passes at H
  refine j_aload_n (pc := 0) dX12_passes_0 rfl ?_
  obtain ⟨r2, h1, eh1, H⟩ := bd_x H
  refine j_callV (pc := 1) dX12_passes_1 mlX12_232 wyX12_fine (tX12_fine eh1) (by decide) rfl rfl rfl rfl (by simp [Value.category]) rfl ?_
  refine j_if_eq (pc := 4) (tgt := 15) dX12_passes_4 (by decide) (fun c3 => ?_) (fun c3 => ?_)
  · rw [if_pos c3] at H
    refine j_iconst (pc := 15) (v := 0) dX12_passes_15 (by decide) ?_
    exact j_zreturn (pc := 16) dX12_passes_16 rfl (rz0 H) (ri_2 H)
  · rw [if_neg c3] at H
    refine j_aload_n (pc := 7) dX12_passes_7 rfl ?_
    obtain ⟨r5, h4, eh4, H⟩ := bd_x H
    refine j_callV (pc := 8) dX12_passes_8 mlX12_236 wyX12_here (tX12_here eh4) (by decide) rfl rfl rfl rfl (by simp [Value.category]) rfl ?_
    refine j_iload_n (pc := 11) dX12_passes_11 rfl ?_
    refine j_icmp_eq (pc := 12) (tgt := 17) dX12_passes_12 (by decide) (fun c6 => ?_) (fun c6 => ?_)
    · rw [if_pos c6] at H
      refine j_aload_n (pc := 17) dX12_passes_17 rfl ?_
      refine j_dup (pc := 18) dX12_passes_18 rfl ?_
      refine j_getI (pc := 19) dX12_passes_19 flX12_217 rfl ?_
      refine j_iconst (pc := 22) (v := 1) dX12_passes_22 (by decide) ?_
      refine j_iadd (pc := 23) dX12_passes_23 ?_
      obtain ⟨h7, eh7, H⟩ := nm_x H
      refine j_putI (pc := 24) dX12_passes_24 fpX12_217 rfl h7 eh7 ?_
      refine j_iconst (pc := 27) (v := 1) dX12_passes_27 (by decide) ?_
      exact j_zreturn (pc := 28) dX12_passes_28 rfl (rz1 H) (ri_2 H)
    · rw [if_neg c6] at H
      refine j_iconst (pc := 15) (v := 0) dX12_passes_15 (by decide) ?_
      exact j_zreturn (pc := 16) dX12_passes_16 rfl (rz0 H) (ri_2 H)

noncomputable def fX12_need (p1 : Int32) (h : HS) : Option HS := bd (fX12_passes p1 h) (fun r2 h1 => if r2 = 0 then (bv (fX12_fault ((gI h1 0 29)) h1) (fun h4 => some h4)) else (some h1))
set_option maxRecDepth 100000 in
theorem tX12_need {p1 : Int32} {h h0 : HS} (H : fX12_need p1 h = some h0) : Cn skM yX12_need cX12_need 2 none 2 [.ref 0, .int p1] h none h0 := by
  refine Cn_of (L := [some (.ref 0), some (.int p1)]) (by decide +kernel) (by simp [lg_sl, Value.category]) (fun ad => by simp [lg_sl, tv, Value.category]) (⟨rfl, ⟨rfl, trivial⟩⟩) ?_
  unfold fX12_need at H
  refine j_aload_n (pc := 0) dX12_need_0 rfl ?_
  refine j_iload_n (pc := 1) dX12_need_1 rfl ?_
  obtain ⟨r2, h1, eh1, H⟩ := bd_x H
  refine j_callV (pc := 2) dX12_need_2 mlX12_239 wyX12_passes (tX12_passes eh1) (by decide) rfl rfl rfl rfl (by simp [Value.category]) rfl ?_
  refine j_if_ne (pc := 5) (tgt := 16) dX12_need_5 (by decide) (fun c3 => ?_) (fun c3 => ?_)
  · rw [if_neg c3] at H
    exact j_return (pc := 16) dX12_need_16 rfl rfl (rv_2 H)
  · rw [if_pos c3] at H
    refine j_aload_n (pc := 8) dX12_need_8 rfl ?_
    refine j_aload_n (pc := 9) dX12_need_9 rfl ?_
    refine j_getI (pc := 10) dX12_need_10 flX12_217 rfl ?_
    obtain ⟨h4, eh4, H⟩ := bv_x H
    refine j_callV (pc := 13) dX12_need_13 mlX12_243 wyX12_fault (tX12_fault eh4) (by decide) rfl rfl rfl rfl (by simp [Value.category]) rfl ?_
    exact j_return (pc := 16) dX12_need_16 rfl rfl (rv_2 H)

noncomputable def fX12_number_104 (v4 : Int32) (h : HS) : Option (Int32 × HS) := bd (fX12_fine h) (fun r20 h19 => if r20 = 0 then (some ((0 : Int32), h19)) else (some (v4, h19)))
set_option maxRecDepth 100000 in
theorem jX12_number_104 {r : Int32} {h0 : HS} (v4 : Int32) (h : HS) (H : fX12_number_104 v4 h = some (r, h0)) : Jx skM RX12 cX12_number 5 (some .int) 2 (some (.int r)) h0 104 [some (.ref 0), none, none, none, some (.int v4)] [] h := by
  unfold fX12_number_104 at H
  refine j_aload_n (pc := 104) dX12_number_104 rfl ?_
  obtain ⟨r20, h19, eh19, H⟩ := bd_x H
  refine j_callV (pc := 105) dX12_number_105 mlX12_232 wyX12_fine (tX12_fine eh19) (by decide) rfl rfl rfl rfl (by simp [Value.category]) rfl ?_
  refine j_if_eq (pc := 108) (tgt := 116) dX12_number_108 (by decide) (fun c21 => ?_) (fun c21 => ?_)
  · rw [if_pos c21] at H
    refine j_iconst (pc := 116) (v := 0) dX12_number_116 (by decide) ?_
    exact j_ireturn (pc := 117) dX12_number_117 rfl (ri_1 H) (ri_2 H)
  · rw [if_neg c21] at H
    refine j_iload (pc := 111) dX12_number_111 rfl ?_
    refine j_goto (pc := 113) (tgt := 117) dX12_number_113 (by decide) ?_
    exact j_ireturn (pc := 117) dX12_number_117 rfl (ri_1 H) (ri_2 H)
noncomputable def fX12_number_69 (v2 : Int32) (v3 : Int32) (v4 : Int32) (h : HS) : Option (Int32 × HS) := if (gI h 0 29) = v3 then (bv (fX12_fault ((gI h 0 29)) h) (fun h18 => fX12_number_104 v4 h18)) else (if v4 ≤ v2 then (fX12_number_104 v4 h) else (bv (fX12_fault (((gI h 0 29) - (1 : Int32))) h) (fun h17 => fX12_number_104 v4 h17)))
set_option maxRecDepth 100000 in
theorem jX12_number_69 {r : Int32} {h0 : HS} (v2 : Int32) (v3 : Int32) (v4 : Int32) (h : HS) (H : fX12_number_69 v2 v3 v4 h = some (r, h0)) : Jx skM RX12 cX12_number 5 (some .int) 2 (some (.int r)) h0 69 [some (.ref 0), none, some (.int v2), some (.int v3), some (.int v4)] [] h := by
  unfold fX12_number_69 at H
  refine j_aload_n (pc := 69) dX12_number_69 rfl ?_
  refine j_getI (pc := 70) dX12_number_70 flX12_217 rfl ?_
  refine j_iload_n (pc := 73) dX12_number_73 rfl ?_
  refine j_icmp_ne (pc := 74) (tgt := 88) dX12_number_74 (by decide) (fun c15 => ?_) (fun c15 => ?_)
  · rw [if_neg c15] at H
    refine j_iload (pc := 88) dX12_number_88 rfl ?_
    refine j_iload_n (pc := 90) dX12_number_90 rfl ?_
    refine j_icmp_le (pc := 91) (tgt := 104) dX12_number_91 (by decide) (fun c16 => ?_) (fun c16 => ?_)
    · rw [if_pos c16] at H
      refine Jx.sub (L' := [some (.ref 0), none, none, none, some (.int v4)]) (⟨rfl, ⟨rfl, trivial⟩⟩) ?_
      exact jX12_number_104 v4 h H
    · rw [if_neg c16] at H
      refine j_aload_n (pc := 94) dX12_number_94 rfl ?_
      refine j_aload_n (pc := 95) dX12_number_95 rfl ?_
      refine j_getI (pc := 96) dX12_number_96 flX12_217 rfl ?_
      refine j_iconst (pc := 99) (v := 1) dX12_number_99 (by decide) ?_
      refine j_isub (pc := 100) dX12_number_100 ?_
      obtain ⟨h17, eh17, H⟩ := bv_x H
      refine j_callV (pc := 101) dX12_number_101 mlX12_243 wyX12_fault (tX12_fault eh17) (by decide) rfl rfl rfl rfl (by simp [Value.category]) rfl ?_
      refine Jx.sub (L' := [some (.ref 0), none, none, none, some (.int v4)]) (⟨rfl, ⟨rfl, trivial⟩⟩) ?_
      exact jX12_number_104 v4 h17 H
  · rw [if_pos c15] at H
    refine j_aload_n (pc := 77) dX12_number_77 rfl ?_
    refine j_aload_n (pc := 78) dX12_number_78 rfl ?_
    refine j_getI (pc := 79) dX12_number_79 flX12_217 rfl ?_
    obtain ⟨h18, eh18, H⟩ := bv_x H
    refine j_callV (pc := 82) dX12_number_82 mlX12_243 wyX12_fault (tX12_fault eh18) (by decide) rfl rfl rfl rfl (by simp [Value.category]) rfl ?_
    refine j_goto (pc := 85) (tgt := 104) dX12_number_85 (by decide) ?_
    refine Jx.sub (L' := [some (.ref 0), none, none, none, some (.int v4)]) (⟨rfl, ⟨rfl, trivial⟩⟩) ?_
    exact jX12_number_104 v4 h18 H
noncomputable def fX12_number_17 : Nat → Int32 → Int32 → Int32 → Int32 → HS → Option (Int32 × HS)
  | 0, _, _, _, _, _ => none
  | n + 1, v1, v2, v3, v4, h => if (v3 + v1) ≤ (gI h 0 29) then (fX12_number_69 v2 v3 v4 h) else (bd (fX12_here h) (fun r7 h6 => bd (fX12_in r7 (48 : Int32) (57 : Int32) h6) (fun r9 h8 => if r9 = 0 then (fX12_number_69 v2 v3 v4 h8) else (bd (fX12_here h8) (fun r12 h11 => nm (((((10 : Int32) * v4) + r12) - (48 : Int32))) (fun v4_13 => nm (pI h11 0 29 ((gI h11 0 29) + (1 : Int32))) (fun h14 => fX12_number_17 n v1 v2 v3 v4_13 h14)))))))
set_option maxRecDepth 100000 in
theorem jX12_number_17 {r : Int32} {h0 : HS} : ∀ (n : Nat) (v1 : Int32) (v2 : Int32) (v3 : Int32) (v4 : Int32) (h : HS), fX12_number_17 n v1 v2 v3 v4 h = some (r, h0) → Jx skM RX12 cX12_number 5 (some .int) 2 (some (.int r)) h0 17 [some (.ref 0), some (.int v1), some (.int v2), some (.int v3), some (.int v4)] [] h := by
  intro n
  induction n with
  | zero => intro v1 v2 v3 v4  h H; cases H
  | succ n ih =>
    intro v1 v2 v3 v4  h H
    rw [fX12_number_17] at H
    refine j_aload_n (pc := 17) dX12_number_17 rfl ?_
    refine j_getI (pc := 18) dX12_number_18 flX12_217 rfl ?_
    refine j_iload_n (pc := 21) dX12_number_21 rfl ?_
    refine j_iload_n (pc := 22) dX12_number_22 rfl ?_
    refine j_iadd (pc := 23) dX12_number_23 ?_
    refine j_icmp_ge (pc := 24) (tgt := 69) dX12_number_24 (by decide) (fun c5 => ?_) (fun c5 => ?_)
    · rw [if_pos c5] at H
      refine Jx.sub (L' := [some (.ref 0), none, some (.int v2), some (.int v3), some (.int v4)]) (⟨rfl, ⟨rfl, ⟨rfl, ⟨rfl, trivial⟩⟩⟩⟩) ?_
      exact jX12_number_69 v2 v3 v4 h H
    · rw [if_neg c5] at H
      refine j_aload_n (pc := 27) dX12_number_27 rfl ?_
      obtain ⟨r7, h6, eh6, H⟩ := bd_x H
      refine j_callV (pc := 28) dX12_number_28 mlX12_236 wyX12_here (tX12_here eh6) (by decide) rfl rfl rfl rfl (by simp [Value.category]) rfl ?_
      refine j_bipush (pc := 31) (v := 48) dX12_number_31 (by decide) ?_
      refine j_bipush (pc := 33) (v := 57) dX12_number_33 (by decide) ?_
      obtain ⟨r9, h8, eh8, H⟩ := bd_x H
      refine j_callS (pc := 35) dX12_number_35 mlX12_142 wyX12_in (tX12_in eh8) (by decide) rfl (by simp [Value.category]) rfl ?_
      refine j_if_eq (pc := 38) (tgt := 69) dX12_number_38 (by decide) (fun c10 => ?_) (fun c10 => ?_)
      · rw [if_pos c10] at H
        refine Jx.sub (L' := [some (.ref 0), none, some (.int v2), some (.int v3), some (.int v4)]) (⟨rfl, ⟨rfl, ⟨rfl, ⟨rfl, trivial⟩⟩⟩⟩) ?_
        exact jX12_number_69 v2 v3 v4 h8 H
      · rw [if_neg c10] at H
        refine j_bipush (pc := 41) (v := 10) dX12_number_41 (by decide) ?_
        refine j_iload (pc := 43) dX12_number_43 rfl ?_
        refine j_imul (pc := 45) dX12_number_45 ?_
        refine j_aload_n (pc := 46) dX12_number_46 rfl ?_
        obtain ⟨r12, h11, eh11, H⟩ := bd_x H
        refine j_callV (pc := 47) dX12_number_47 mlX12_236 wyX12_here (tX12_here eh11) (by decide) rfl rfl rfl rfl (by simp [Value.category]) rfl ?_
        refine j_iadd (pc := 50) dX12_number_50 ?_
        refine j_bipush (pc := 51) (v := 48) dX12_number_51 (by decide) ?_
        refine j_isub (pc := 53) dX12_number_53 ?_
        obtain ⟨v4_13, ev4_13, H⟩ := nm_x H
        refine j_topi ev4_13 ?_
        refine j_istore (pc := 54) (L' := [some (.ref 0), some (.int v1), some (.int v2), some (.int v3), some (.int v4_13)]) dX12_number_54 (by decide) rfl ?_
        refine j_aload_n (pc := 56) dX12_number_56 rfl ?_
        refine j_dup (pc := 57) dX12_number_57 rfl ?_
        refine j_getI (pc := 58) dX12_number_58 flX12_217 rfl ?_
        refine j_iconst (pc := 61) (v := 1) dX12_number_61 (by decide) ?_
        refine j_iadd (pc := 62) dX12_number_62 ?_
        obtain ⟨h14, eh14, H⟩ := nm_x H
        refine j_putI (pc := 63) dX12_number_63 fpX12_217 rfl h14 eh14 ?_
        refine j_goto (pc := 66) (tgt := 17) dX12_number_66 (by decide) ?_
        refine Jx.sub (L' := [some (.ref 0), some (.int v1), some (.int v2), some (.int v3), some (.int v4_13)]) (⟨rfl, ⟨rfl, ⟨rfl, ⟨rfl, ⟨rfl, trivial⟩⟩⟩⟩⟩) ?_
        exact ih v1 v2 v3 v4_13 h14 H
noncomputable def fX12_number (p1 : Int32) (p2 : Int32) (h : HS) : Option (Int32 × HS) := bd (fX12_fine h) (fun r2 h1 => if r2 = 0 then (some ((0 : Int32), h1)) else (nm ((gI h1 0 29)) (fun v3_4 => fX12_number_17 FU p1 p2 v3_4 (0 : Int32) h1)))
set_option maxRecDepth 100000 in
theorem tX12_number {p1 : Int32} {p2 : Int32} {r : Int32} {h h0 : HS} (H : fX12_number p1 p2 h = some (r, h0)) : Cn skM yX12_number cX12_number 5 (some .int) 2 [.ref 0, .int p1, .int p2] h (some (.int r)) h0 := by
  refine Cn_of (L := [some (.ref 0), some (.int p1), some (.int p2), none, none]) (by decide +kernel) (by simp [lg_sl, Value.category]) (fun ad => by simp [lg_sl, tv, Value.category]) (⟨rfl, ⟨rfl, ⟨rfl, trivial⟩⟩⟩) ?_
  unfold fX12_number at H
  refine j_aload_n (pc := 0) dX12_number_0 rfl ?_
  obtain ⟨r2, h1, eh1, H⟩ := bd_x H
  refine j_callV (pc := 1) dX12_number_1 mlX12_232 wyX12_fine (tX12_fine eh1) (by decide) rfl rfl rfl rfl (by simp [Value.category]) rfl ?_
  refine j_if_ne (pc := 4) (tgt := 9) dX12_number_4 (by decide) (fun c3 => ?_) (fun c3 => ?_)
  · rw [if_neg c3] at H
    refine j_aload_n (pc := 9) dX12_number_9 rfl ?_
    refine j_getI (pc := 10) dX12_number_10 flX12_217 rfl ?_
    obtain ⟨v3_4, ev3_4, H⟩ := nm_x H
    refine j_topi ev3_4 ?_
    refine j_istore_n (pc := 13) (L' := [some (.ref 0), some (.int p1), some (.int p2), some (.int v3_4), none]) dX12_number_13 (by decide) rfl ?_
    refine j_iconst (pc := 14) (v := 0) dX12_number_14 (by decide) ?_
    refine j_istore (pc := 15) (L' := [some (.ref 0), some (.int p1), some (.int p2), some (.int v3_4), some (.int (0 : Int32))]) dX12_number_15 (by decide) rfl ?_
    refine Jx.sub (L' := [some (.ref 0), some (.int p1), some (.int p2), some (.int v3_4), some (.int (0 : Int32))]) (⟨rfl, ⟨rfl, ⟨rfl, ⟨rfl, ⟨rfl, trivial⟩⟩⟩⟩⟩) ?_
    exact jX12_number_17 FU p1 p2 v3_4 (0 : Int32) h1 H
  · rw [if_pos c3] at H
    refine j_iconst (pc := 7) (v := 0) dX12_number_7 (by decide) ?_
    exact j_ireturn (pc := 8) dX12_number_8 rfl (ri_1 H) (ri_2 H)

noncomputable def fX12_thing_170 (g_sum : Int32 → HS → Option (Int32 × HS)) (g_thing : Int32 → HS → Option (Int32 × HS)) (v2 : Int32) (h : HS) : Option (Int32 × HS) := nm (pI h 0 29 ((gI h 0 29) + (1 : Int32))) (fun h36 => if v2 = (104 : Int32) then (bd (fX12_heavyAt (0 : Int32) h36) (fun r48 h47 => some (r48, h47))) else (if v2 = (109 : Int32) then (bd (fX12_momentOf (0 : Int32) h36) (fun r46 h45 => some (r46, h45))) else (if v2 = (108 : Int32) then (bd (fX12_momentOf (1 : Int32) h36) (fun r44 h43 => some (r44, h43))) else (if v2 = (100 : Int32) then (some ((gI h36 0 16), h36)) else (bd (fX12_densityAt (0 : Int32) h36) (fun r42 h41 => some (r42, h41)))))))
set_option maxRecDepth 100000 in
theorem jX12_thing_170 {r : Int32} {h0 : HS} {g_sum : Int32 → HS → Option (Int32 × HS)} {g_thing : Int32 → HS → Option (Int32 × HS)} {dd : Nat} (hdb : 3 ≤ dd) {d_sum : Nat} (hd_sum : d_sum + 1 ≤ dd) (hg_sum : ∀ (p1 : Int32) (h : HS) (r : Int32) (h1 : HS), g_sum p1 h = some (r, h1) → Cn skM yX12_sum cX12_sum 5 (some .int) d_sum [.ref 0, .int p1] h (some (.int r)) h1) {d_thing : Nat} (hd_thing : d_thing + 1 ≤ dd) (hg_thing : ∀ (p1 : Int32) (h : HS) (r : Int32) (h1 : HS), g_thing p1 h = some (r, h1) → Cn skM yX12_thing cX12_thing 4 (some .int) d_thing [.ref 0, .int p1] h (some (.int r)) h1) (v2 : Int32) (h : HS) (H : fX12_thing_170 g_sum g_thing v2 h = some (r, h0)) : Jx skM RX12 cX12_thing 4 (some .int) dd (some (.int r)) h0 170 [some (.ref 0), none, some (.int v2), none] [] h := by
  unfold fX12_thing_170 at H
  refine j_aload_n (pc := 170) dX12_thing_170 rfl ?_
  refine j_dup (pc := 171) dX12_thing_171 rfl ?_
  refine j_getI (pc := 172) dX12_thing_172 flX12_217 rfl ?_
  refine j_iconst (pc := 175) (v := 1) dX12_thing_175 (by decide) ?_
  refine j_iadd (pc := 176) dX12_thing_176 ?_
  obtain ⟨h36, eh36, H⟩ := nm_x H
  refine j_putI (pc := 177) dX12_thing_177 fpX12_217 rfl h36 eh36 ?_
  refine j_iload_n (pc := 180) dX12_thing_180 rfl ?_
  refine j_bipush (pc := 181) (v := 104) dX12_thing_181 (by decide) ?_
  refine j_icmp_ne (pc := 183) (tgt := 194) dX12_thing_183 (by decide) (fun c37 => ?_) (fun c37 => ?_)
  · rw [if_neg c37] at H
    refine j_iload_n (pc := 194) dX12_thing_194 rfl ?_
    refine j_bipush (pc := 195) (v := 109) dX12_thing_195 (by decide) ?_
    refine j_icmp_ne (pc := 197) (tgt := 208) dX12_thing_197 (by decide) (fun c38 => ?_) (fun c38 => ?_)
    · rw [if_neg c38] at H
      refine j_iload_n (pc := 208) dX12_thing_208 rfl ?_
      refine j_bipush (pc := 209) (v := 108) dX12_thing_209 (by decide) ?_
      refine j_icmp_ne (pc := 211) (tgt := 222) dX12_thing_211 (by decide) (fun c39 => ?_) (fun c39 => ?_)
      · rw [if_neg c39] at H
        refine j_iload_n (pc := 222) dX12_thing_222 rfl ?_
        refine j_bipush (pc := 223) (v := 100) dX12_thing_223 (by decide) ?_
        refine j_icmp_ne (pc := 225) (tgt := 235) dX12_thing_225 (by decide) (fun c40 => ?_) (fun c40 => ?_)
        · rw [if_neg c40] at H
          refine j_aload_n (pc := 235) dX12_thing_235 rfl ?_
          refine j_iconst (pc := 236) (v := 0) dX12_thing_236 (by decide) ?_
          obtain ⟨r42, h41, eh41, H⟩ := bd_x H
          refine j_callV (pc := 237) dX12_thing_237 mlX12_188 wyX12_densityAt (tX12_densityAt eh41) (Nat.le_trans (by decide) hdb) rfl rfl rfl rfl (by simp [Value.category]) rfl ?_
          exact j_ireturn (pc := 240) dX12_thing_240 rfl (ri_1 H) (ri_2 H)
        · rw [if_pos c40] at H
          refine j_aload_n (pc := 228) dX12_thing_228 rfl ?_
          refine j_getI (pc := 229) dX12_thing_229 flX12_262 rfl ?_
          refine j_goto (pc := 232) (tgt := 240) dX12_thing_232 (by decide) ?_
          exact j_ireturn (pc := 240) dX12_thing_240 rfl (ri_1 H) (ri_2 H)
      · rw [if_pos c39] at H
        refine j_aload_n (pc := 214) dX12_thing_214 rfl ?_
        refine j_iconst (pc := 215) (v := 1) dX12_thing_215 (by decide) ?_
        obtain ⟨r44, h43, eh43, H⟩ := bd_x H
        refine j_callV (pc := 216) dX12_thing_216 mlX12_204 wyX12_momentOf (tX12_momentOf eh43) (Nat.le_trans (by decide) hdb) rfl rfl rfl rfl (by simp [Value.category]) rfl ?_
        refine j_goto (pc := 219) (tgt := 240) dX12_thing_219 (by decide) ?_
        exact j_ireturn (pc := 240) dX12_thing_240 rfl (ri_1 H) (ri_2 H)
    · rw [if_pos c38] at H
      refine j_aload_n (pc := 200) dX12_thing_200 rfl ?_
      refine j_iconst (pc := 201) (v := 0) dX12_thing_201 (by decide) ?_
      obtain ⟨r46, h45, eh45, H⟩ := bd_x H
      refine j_callV (pc := 202) dX12_thing_202 mlX12_204 wyX12_momentOf (tX12_momentOf eh45) (Nat.le_trans (by decide) hdb) rfl rfl rfl rfl (by simp [Value.category]) rfl ?_
      refine j_goto (pc := 205) (tgt := 240) dX12_thing_205 (by decide) ?_
      exact j_ireturn (pc := 240) dX12_thing_240 rfl (ri_1 H) (ri_2 H)
  · rw [if_pos c37] at H
    refine j_aload_n (pc := 186) dX12_thing_186 rfl ?_
    refine j_iconst (pc := 187) (v := 0) dX12_thing_187 (by decide) ?_
    obtain ⟨r48, h47, eh47, H⟩ := bd_x H
    refine j_callV (pc := 188) dX12_thing_188 mlX12_198 wyX12_heavyAt (tX12_heavyAt eh47) (Nat.le_trans (by decide) hdb) rfl rfl rfl rfl (by simp [Value.category]) rfl ?_
    refine j_goto (pc := 191) (tgt := 240) dX12_thing_191 (by decide) ?_
    exact j_ireturn (pc := 240) dX12_thing_240 rfl (ri_1 H) (ri_2 H)
noncomputable def fX12_thing_67 (g_sum : Int32 → HS → Option (Int32 × HS)) (g_thing : Int32 → HS → Option (Int32 × HS)) (v2 : Int32) (h : HS) : Option (Int32 × HS) := bd (fX12_in v2 (48 : Int32) (57 : Int32) h) (fun r18 h17 => if r18 = 0 then (if v2 = (110 : Int32) then (nm (pI h17 0 29 ((gI h17 0 29) + (1 : Int32))) (fun h27 => bd (fX12_number (2 : Int32) (15 : Int32) h27) (fun r29 h28 => bd (fX12_isLoad r29 h28) (fun r31 h30 => if r31 = 0 then (some ((0 : Int32), h30)) else (ck (inb r29 15) (some ((gI h30 5 r29.toNatClampNeg), h30))))))) else (if v2 = (104 : Int32) then (fX12_thing_170 g_sum g_thing v2 h17) else (if v2 = (109 : Int32) then (fX12_thing_170 g_sum g_thing v2 h17) else (if v2 = (108 : Int32) then (fX12_thing_170 g_sum g_thing v2 h17) else (if v2 = (100 : Int32) then (fX12_thing_170 g_sum g_thing v2 h17) else (if v2 = (119 : Int32) then (fX12_thing_170 g_sum g_thing v2 h17) else (bv (fX12_fault ((gI h17 0 29)) h17) (fun h26 => some ((0 : Int32), h26))))))))) else (bd (fX12_number (4 : Int32) (9999 : Int32) h17) (fun r35 h34 => some (r35, h34))))
set_option maxRecDepth 100000 in
theorem jX12_thing_67 {r : Int32} {h0 : HS} {g_sum : Int32 → HS → Option (Int32 × HS)} {g_thing : Int32 → HS → Option (Int32 × HS)} {dd : Nat} (hdb : 3 ≤ dd) {d_sum : Nat} (hd_sum : d_sum + 1 ≤ dd) (hg_sum : ∀ (p1 : Int32) (h : HS) (r : Int32) (h1 : HS), g_sum p1 h = some (r, h1) → Cn skM yX12_sum cX12_sum 5 (some .int) d_sum [.ref 0, .int p1] h (some (.int r)) h1) {d_thing : Nat} (hd_thing : d_thing + 1 ≤ dd) (hg_thing : ∀ (p1 : Int32) (h : HS) (r : Int32) (h1 : HS), g_thing p1 h = some (r, h1) → Cn skM yX12_thing cX12_thing 4 (some .int) d_thing [.ref 0, .int p1] h (some (.int r)) h1) (v2 : Int32) (h : HS) (H : fX12_thing_67 g_sum g_thing v2 h = some (r, h0)) : Jx skM RX12 cX12_thing 4 (some .int) dd (some (.int r)) h0 67 [some (.ref 0), none, some (.int v2), none] [] h := by
  unfold fX12_thing_67 at H
  refine j_iload_n (pc := 67) dX12_thing_67 rfl ?_
  refine j_bipush (pc := 68) (v := 48) dX12_thing_68 (by decide) ?_
  refine j_bipush (pc := 70) (v := 57) dX12_thing_70 (by decide) ?_
  obtain ⟨r18, h17, eh17, H⟩ := bd_x H
  refine j_callS (pc := 72) dX12_thing_72 mlX12_142 wyX12_in (tX12_in eh17) (Nat.le_trans (by decide) hdb) rfl (by simp [Value.category]) rfl ?_
  refine j_if_eq (pc := 75) (tgt := 87) dX12_thing_75 (by decide) (fun c19 => ?_) (fun c19 => ?_)
  · rw [if_pos c19] at H
    refine j_iload_n (pc := 87) dX12_thing_87 rfl ?_
    refine j_bipush (pc := 88) (v := 110) dX12_thing_88 (by decide) ?_
    refine j_icmp_ne (pc := 90) (tgt := 130) dX12_thing_90 (by decide) (fun c20 => ?_) (fun c20 => ?_)
    · rw [if_neg c20] at H
      refine j_iload_n (pc := 130) dX12_thing_130 rfl ?_
      refine j_bipush (pc := 131) (v := 104) dX12_thing_131 (by decide) ?_
      refine j_icmp_eq (pc := 133) (tgt := 170) dX12_thing_133 (by decide) (fun c21 => ?_) (fun c21 => ?_)
      · rw [if_pos c21] at H
        refine Jx.sub (L' := [some (.ref 0), none, some (.int v2), none]) (⟨rfl, ⟨rfl, trivial⟩⟩) ?_
        exact jX12_thing_170 hdb hd_sum hg_sum hd_thing hg_thing v2 h17 H
      · rw [if_neg c21] at H
        refine j_iload_n (pc := 136) dX12_thing_136 rfl ?_
        refine j_bipush (pc := 137) (v := 109) dX12_thing_137 (by decide) ?_
        refine j_icmp_eq (pc := 139) (tgt := 170) dX12_thing_139 (by decide) (fun c22 => ?_) (fun c22 => ?_)
        · rw [if_pos c22] at H
          refine Jx.sub (L' := [some (.ref 0), none, some (.int v2), none]) (⟨rfl, ⟨rfl, trivial⟩⟩) ?_
          exact jX12_thing_170 hdb hd_sum hg_sum hd_thing hg_thing v2 h17 H
        · rw [if_neg c22] at H
          refine j_iload_n (pc := 142) dX12_thing_142 rfl ?_
          refine j_bipush (pc := 143) (v := 108) dX12_thing_143 (by decide) ?_
          refine j_icmp_eq (pc := 145) (tgt := 170) dX12_thing_145 (by decide) (fun c23 => ?_) (fun c23 => ?_)
          · rw [if_pos c23] at H
            refine Jx.sub (L' := [some (.ref 0), none, some (.int v2), none]) (⟨rfl, ⟨rfl, trivial⟩⟩) ?_
            exact jX12_thing_170 hdb hd_sum hg_sum hd_thing hg_thing v2 h17 H
          · rw [if_neg c23] at H
            refine j_iload_n (pc := 148) dX12_thing_148 rfl ?_
            refine j_bipush (pc := 149) (v := 100) dX12_thing_149 (by decide) ?_
            refine j_icmp_eq (pc := 151) (tgt := 170) dX12_thing_151 (by decide) (fun c24 => ?_) (fun c24 => ?_)
            · rw [if_pos c24] at H
              refine Jx.sub (L' := [some (.ref 0), none, some (.int v2), none]) (⟨rfl, ⟨rfl, trivial⟩⟩) ?_
              exact jX12_thing_170 hdb hd_sum hg_sum hd_thing hg_thing v2 h17 H
            · rw [if_neg c24] at H
              refine j_iload_n (pc := 154) dX12_thing_154 rfl ?_
              refine j_bipush (pc := 155) (v := 119) dX12_thing_155 (by decide) ?_
              refine j_icmp_eq (pc := 157) (tgt := 170) dX12_thing_157 (by decide) (fun c25 => ?_) (fun c25 => ?_)
              · rw [if_pos c25] at H
                refine Jx.sub (L' := [some (.ref 0), none, some (.int v2), none]) (⟨rfl, ⟨rfl, trivial⟩⟩) ?_
                exact jX12_thing_170 hdb hd_sum hg_sum hd_thing hg_thing v2 h17 H
              · rw [if_neg c25] at H
                refine j_aload_n (pc := 160) dX12_thing_160 rfl ?_
                refine j_aload_n (pc := 161) dX12_thing_161 rfl ?_
                refine j_getI (pc := 162) dX12_thing_162 flX12_217 rfl ?_
                obtain ⟨h26, eh26, H⟩ := bv_x H
                refine j_callV (pc := 165) dX12_thing_165 mlX12_243 wyX12_fault (tX12_fault eh26) (Nat.le_trans (by decide) hdb) rfl rfl rfl rfl (by simp [Value.category]) rfl ?_
                refine j_iconst (pc := 168) (v := 0) dX12_thing_168 (by decide) ?_
                exact j_ireturn (pc := 169) dX12_thing_169 rfl (ri_1 H) (ri_2 H)
    · rw [if_pos c20] at H
      refine j_aload_n (pc := 93) dX12_thing_93 rfl ?_
      refine j_dup (pc := 94) dX12_thing_94 rfl ?_
      refine j_getI (pc := 95) dX12_thing_95 flX12_217 rfl ?_
      refine j_iconst (pc := 98) (v := 1) dX12_thing_98 (by decide) ?_
      refine j_iadd (pc := 99) dX12_thing_99 ?_
      obtain ⟨h27, eh27, H⟩ := nm_x H
      refine j_putI (pc := 100) dX12_thing_100 fpX12_217 rfl h27 eh27 ?_
      refine j_aload_n (pc := 103) dX12_thing_103 rfl ?_
      refine j_iconst (pc := 104) (v := 2) dX12_thing_104 (by decide) ?_
      refine j_bipush (pc := 105) (v := 15) dX12_thing_105 (by decide) ?_
      obtain ⟨r29, h28, eh28, H⟩ := bd_x H
      refine j_callV (pc := 107) dX12_thing_107 mlX12_259 wyX12_number (tX12_number eh28) (Nat.le_trans (by decide) hdb) rfl rfl rfl rfl (by simp [Value.category]) rfl ?_
      refine j_istore_n (pc := 110) (L' := [some (.ref 0), none, some (.int v2), some (.int r29)]) dX12_thing_110 (by decide) rfl ?_
      refine j_aload_n (pc := 111) dX12_thing_111 rfl ?_
      refine j_iload_n (pc := 112) dX12_thing_112 rfl ?_
      obtain ⟨r31, h30, eh30, H⟩ := bd_x H
      refine j_callV (pc := 113) dX12_thing_113 mlX12_146 wyX12_isLoad (tX12_isLoad eh30) (Nat.le_trans (by decide) hdb) rfl rfl rfl rfl (by simp [Value.category]) rfl ?_
      refine j_if_eq (pc := 116) (tgt := 128) dX12_thing_116 (by decide) (fun c32 => ?_) (fun c32 => ?_)
      · rw [if_pos c32] at H
        refine j_iconst (pc := 128) (v := 0) dX12_thing_128 (by decide) ?_
        exact j_ireturn (pc := 129) dX12_thing_129 rfl (ri_1 H) (ri_2 H)
      · rw [if_neg c32] at H
        refine j_aload_n (pc := 119) dX12_thing_119 rfl ?_
        refine j_getR (pc := 120) (b := 5) dX12_thing_120 flX12_22 rfl ?_
        refine j_iload_n (pc := 123) dX12_thing_123 rfl ?_
        obtain ⟨b33, H⟩ := ck_x H
        refine j_iaload (pc := 124) dX12_thing_124 rfl b33 rfl ?_
        refine j_goto (pc := 125) (tgt := 129) dX12_thing_125 (by decide) ?_
        exact j_ireturn (pc := 129) dX12_thing_129 rfl (ri_1 H) (ri_2 H)
  · rw [if_neg c19] at H
    refine j_aload_n (pc := 78) dX12_thing_78 rfl ?_
    refine j_iconst (pc := 79) (v := 4) dX12_thing_79 (by decide) ?_
    refine j_sipush (pc := 80) (v := 9999) dX12_thing_80 (by decide) ?_
    obtain ⟨r35, h34, eh34, H⟩ := bd_x H
    refine j_callV (pc := 83) dX12_thing_83 mlX12_259 wyX12_number (tX12_number eh34) (Nat.le_trans (by decide) hdb) rfl rfl rfl rfl (by simp [Value.category]) rfl ?_
    exact j_ireturn (pc := 86) dX12_thing_86 rfl (ri_1 H) (ri_2 H)
noncomputable def fX12_thing (g_sum : Int32 → HS → Option (Int32 × HS)) (g_thing : Int32 → HS → Option (Int32 × HS)) (p1 : Int32) (h : HS) : Option (Int32 × HS) := bd (fX12_passes (45 : Int32) h) (fun r2 h1 => if r2 = 0 then (bd (fX12_fine h1) (fun r5 h4 => if r5 = 0 then (some ((0 : Int32), h4)) else (bd (fX12_here h4) (fun r8 h7 => if r8 = (40 : Int32) then (if (4 : Int32) ≤ p1 then (fX12_thing_67 g_sum g_thing r8 h7) else (nm (pI h7 0 29 ((gI h7 0 29) + (1 : Int32))) (fun h11 => bd (g_sum ((p1 + (1 : Int32))) h11) (fun r13 h12 => bv (fX12_need (41 : Int32) h12) (fun h14 => some (r13, h14)))))) else (fX12_thing_67 g_sum g_thing r8 h7))))) else (bd (g_thing p1 h1) (fun r16 h15 => some ((-r16), h15))))
set_option maxRecDepth 100000 in
theorem tX12_thing {p1 : Int32} {r : Int32} {h h0 : HS} {g_sum : Int32 → HS → Option (Int32 × HS)} {g_thing : Int32 → HS → Option (Int32 × HS)} {dd : Nat} (hdb : 3 ≤ dd) {d_sum : Nat} (hd_sum : d_sum + 1 ≤ dd) (hg_sum : ∀ (p1 : Int32) (h : HS) (r : Int32) (h1 : HS), g_sum p1 h = some (r, h1) → Cn skM yX12_sum cX12_sum 5 (some .int) d_sum [.ref 0, .int p1] h (some (.int r)) h1) {d_thing : Nat} (hd_thing : d_thing + 1 ≤ dd) (hg_thing : ∀ (p1 : Int32) (h : HS) (r : Int32) (h1 : HS), g_thing p1 h = some (r, h1) → Cn skM yX12_thing cX12_thing 4 (some .int) d_thing [.ref 0, .int p1] h (some (.int r)) h1) (H : fX12_thing g_sum g_thing p1 h = some (r, h0)) : Cn skM yX12_thing cX12_thing 4 (some .int) dd [.ref 0, .int p1] h (some (.int r)) h0 := by
  refine Cn_of (L := [some (.ref 0), some (.int p1), none, none]) (by decide +kernel) (by simp [lg_sl, Value.category]) (fun ad => by simp [lg_sl, tv, Value.category]) (⟨rfl, ⟨rfl, trivial⟩⟩) ?_
  unfold fX12_thing at H
  refine j_aload_n (pc := 0) dX12_thing_0 rfl ?_
  refine j_bipush (pc := 1) (v := 45) dX12_thing_1 (by decide) ?_
  obtain ⟨r2, h1, eh1, H⟩ := bd_x H
  refine j_callV (pc := 3) dX12_thing_3 mlX12_239 wyX12_passes (tX12_passes eh1) (Nat.le_trans (by decide) hdb) rfl rfl rfl rfl (by simp [Value.category]) rfl ?_
  refine j_if_eq (pc := 6) (tgt := 16) dX12_thing_6 (by decide) (fun c3 => ?_) (fun c3 => ?_)
  · rw [if_pos c3] at H
    refine j_aload_n (pc := 16) dX12_thing_16 rfl ?_
    obtain ⟨r5, h4, eh4, H⟩ := bd_x H
    refine j_callV (pc := 17) dX12_thing_17 mlX12_232 wyX12_fine (tX12_fine eh4) (Nat.le_trans (by decide) hdb) rfl rfl rfl rfl (by simp [Value.category]) rfl ?_
    refine j_if_ne (pc := 20) (tgt := 25) dX12_thing_20 (by decide) (fun c6 => ?_) (fun c6 => ?_)
    · rw [if_neg c6] at H
      refine j_aload_n (pc := 25) dX12_thing_25 rfl ?_
      obtain ⟨r8, h7, eh7, H⟩ := bd_x H
      refine j_callV (pc := 26) dX12_thing_26 mlX12_236 wyX12_here (tX12_here eh7) (Nat.le_trans (by decide) hdb) rfl rfl rfl rfl (by simp [Value.category]) rfl ?_
      refine j_istore_n (pc := 29) (L' := [some (.ref 0), some (.int p1), some (.int r8), none]) dX12_thing_29 (by decide) rfl ?_
      refine j_iload_n (pc := 30) dX12_thing_30 rfl ?_
      refine j_bipush (pc := 31) (v := 40) dX12_thing_31 (by decide) ?_
      refine j_icmp_ne (pc := 33) (tgt := 67) dX12_thing_33 (by decide) (fun c9 => ?_) (fun c9 => ?_)
      · rw [if_neg c9] at H
        refine Jx.sub (L' := [some (.ref 0), none, some (.int r8), none]) (⟨rfl, ⟨rfl, trivial⟩⟩) ?_
        exact jX12_thing_67 hdb hd_sum hg_sum hd_thing hg_thing r8 h7 H
      · rw [if_pos c9] at H
        refine j_iload_n (pc := 36) dX12_thing_36 rfl ?_
        refine j_iconst (pc := 37) (v := 4) dX12_thing_37 (by decide) ?_
        refine j_icmp_ge (pc := 38) (tgt := 67) dX12_thing_38 (by decide) (fun c10 => ?_) (fun c10 => ?_)
        · rw [if_pos c10] at H
          refine Jx.sub (L' := [some (.ref 0), none, some (.int r8), none]) (⟨rfl, ⟨rfl, trivial⟩⟩) ?_
          exact jX12_thing_67 hdb hd_sum hg_sum hd_thing hg_thing r8 h7 H
        · rw [if_neg c10] at H
          refine j_aload_n (pc := 41) dX12_thing_41 rfl ?_
          refine j_dup (pc := 42) dX12_thing_42 rfl ?_
          refine j_getI (pc := 43) dX12_thing_43 flX12_217 rfl ?_
          refine j_iconst (pc := 46) (v := 1) dX12_thing_46 (by decide) ?_
          refine j_iadd (pc := 47) dX12_thing_47 ?_
          obtain ⟨h11, eh11, H⟩ := nm_x H
          refine j_putI (pc := 48) dX12_thing_48 fpX12_217 rfl h11 eh11 ?_
          refine j_aload_n (pc := 51) dX12_thing_51 rfl ?_
          refine j_iload_n (pc := 52) dX12_thing_52 rfl ?_
          refine j_iconst (pc := 53) (v := 1) dX12_thing_53 (by decide) ?_
          refine j_iadd (pc := 54) dX12_thing_54 ?_
          obtain ⟨r13, h12, eh12, H⟩ := bd_x H
          refine j_callV (pc := 55) dX12_thing_55 mlX12_252 wyX12_sum (hg_sum _ _ _ _ eh12) hd_sum rfl rfl rfl rfl (by simp [Value.category]) rfl ?_
          refine j_istore_n (pc := 58) (L' := [some (.ref 0), some (.int p1), some (.int r8), some (.int r13)]) dX12_thing_58 (by decide) rfl ?_
          refine j_aload_n (pc := 59) dX12_thing_59 rfl ?_
          refine j_bipush (pc := 60) (v := 41) dX12_thing_60 (by decide) ?_
          obtain ⟨h14, eh14, H⟩ := bv_x H
          refine j_callV (pc := 62) dX12_thing_62 mlX12_255 wyX12_need (tX12_need eh14) (Nat.le_trans (by decide) hdb) rfl rfl rfl rfl (by simp [Value.category]) rfl ?_
          refine j_iload_n (pc := 65) dX12_thing_65 rfl ?_
          exact j_ireturn (pc := 66) dX12_thing_66 rfl (ri_1 H) (ri_2 H)
    · rw [if_pos c6] at H
      refine j_iconst (pc := 23) (v := 0) dX12_thing_23 (by decide) ?_
      exact j_ireturn (pc := 24) dX12_thing_24 rfl (ri_1 H) (ri_2 H)
  · rw [if_neg c3] at H
    refine j_aload_n (pc := 9) dX12_thing_9 rfl ?_
    refine j_iload_n (pc := 10) dX12_thing_10 rfl ?_
    obtain ⟨r16, h15, eh15, H⟩ := bd_x H
    refine j_callV (pc := 11) dX12_thing_11 mlX12_249 wyX12_thing (hg_thing _ _ _ _ eh15) hd_thing rfl rfl rfl rfl (by simp [Value.category]) rfl ?_
    refine j_ineg (pc := 14) dX12_thing_14 ?_
    exact j_ireturn (pc := 15) dX12_thing_15 rfl (ri_1 H) (ri_2 H)
