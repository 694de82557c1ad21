theorem dX4_placeTank_0 : decode cX4_placeTank 0 = .ok (.aload_n 0, 1) := by decide +kernel
theorem dX4_placeTank_1 : decode cX4_placeTank 1 = .ok (.getfield 45, 3) := by decide +kernel
theorem dX4_placeTank_4 : decode cX4_placeTank 4 = .ok (.istore_n 2, 1) := by decide +kernel
theorem dX4_placeTank_5 : decode cX4_placeTank 5 = .ok (.iload_n 2, 1) := by decide +kernel
theorem dX4_placeTank_6 : decode cX4_placeTank 6 = .ok (.ifCond .le 45, 3) := by decide +kernel
theorem dX4_placeTank_9 : decode cX4_placeTank 9 = .ok (.aload_n 0, 1) := by decide +kernel
theorem dX4_placeTank_10 : decode cX4_placeTank 10 = .ok (.getfield 15, 3) := by decide +kernel
theorem dX4_placeTank_13 : decode cX4_placeTank 13 = .ok (.aload_n 0, 1) := by decide +kernel
theorem dX4_placeTank_14 : decode cX4_placeTank 14 = .ok (.getfield 30, 3) := by decide +kernel
theorem dX4_placeTank_17 : decode cX4_placeTank 17 = .ok (.iload_n 2, 1) := by decide +kernel
theorem dX4_placeTank_18 : decode cX4_placeTank 18 = .ok (.iconst 1, 1) := by decide +kernel
theorem dX4_placeTank_19 : decode cX4_placeTank 19 = .ok (.isub, 1) := by decide +kernel
theorem dX4_placeTank_20 : decode cX4_placeTank 20 = .ok (.iaload, 1) := by decide +kernel
theorem dX4_placeTank_21 : decode cX4_placeTank 21 = .ok (.iaload, 1) := by decide +kernel
theorem dX4_placeTank_22 : decode cX4_placeTank 22 = .ok (.aload_n 0, 1) := by decide +kernel
theorem dX4_placeTank_23 : decode cX4_placeTank 23 = .ok (.getfield 15, 3) := by decide +kernel
theorem dX4_placeTank_26 : decode cX4_placeTank 26 = .ok (.iload_n 1, 1) := by decide +kernel
theorem dX4_placeTank_27 : decode cX4_placeTank 27 = .ok (.iaload, 1) := by decide +kernel
theorem dX4_placeTank_28 : decode cX4_placeTank 28 = .ok (.if_icmp .le 23, 3) := by decide +kernel
theorem dX4_placeTank_31 : decode cX4_placeTank 31 = .ok (.aload_n 0, 1) := by decide +kernel
theorem dX4_placeTank_32 : decode cX4_placeTank 32 = .ok (.getfield 30, 3) := by decide +kernel
theorem dX4_placeTank_35 : decode cX4_placeTank 35 = .ok (.iload_n 2, 1) := by decide +kernel
theorem dX4_placeTank_36 : decode cX4_placeTank 36 = .ok (.aload_n 0, 1) := by decide +kernel
theorem dX4_placeTank_37 : decode cX4_placeTank 37 = .ok (.getfield 30, 3) := by decide +kernel
theorem dX4_placeTank_40 : decode cX4_placeTank 40 = .ok (.iload_n 2, 1) := by decide +kernel
theorem dX4_placeTank_41 : decode cX4_placeTank 41 = .ok (.iconst 1, 1) := by decide +kernel
theorem dX4_placeTank_42 : decode cX4_placeTank 42 = .ok (.isub, 1) := by decide +kernel
theorem dX4_placeTank_43 : decode cX4_placeTank 43 = .ok (.iaload, 1) := by decide +kernel
theorem dX4_placeTank_44 : decode cX4_placeTank 44 = .ok (.iastore, 1) := by decide +kernel
theorem dX4_placeTank_45 : decode cX4_placeTank 45 = .ok (.iinc 2 (-1), 3) := by decide +kernel
theorem dX4_placeTank_48 : decode cX4_placeTank 48 = .ok (.goto (-43), 3) := by decide +kernel
theorem dX4_placeTank_51 : decode cX4_placeTank 51 = .ok (.aload_n 0, 1) := by decide +kernel
theorem dX4_placeTank_52 : decode cX4_placeTank 52 = .ok (.getfield 30, 3) := by decide +kernel
theorem dX4_placeTank_55 : decode cX4_placeTank 55 = .ok (.iload_n 2, 1) := by decide +kernel
theorem dX4_placeTank_56 : decode cX4_placeTank 56 = .ok (.iload_n 1, 1) := by decide +kernel
theorem dX4_placeTank_57 : decode cX4_placeTank 57 = .ok (.iastore, 1) := by decide +kernel
theorem dX4_placeTank_58 : decode cX4_placeTank 58 = .ok (.aload_n 0, 1) := by decide +kernel
theorem dX4_placeTank_59 : decode cX4_placeTank 59 = .ok (.dup, 1) := by decide +kernel
theorem dX4_placeTank_60 : decode cX4_placeTank 60 = .ok (.getfield 45, 3) := by decide +kernel
theorem dX4_placeTank_63 : decode cX4_placeTank 63 = .ok (.iconst 1, 1) := by decide +kernel
theorem dX4_placeTank_64 : decode cX4_placeTank 64 = .ok (.iadd, 1) := by decide +kernel
theorem dX4_placeTank_65 : decode cX4_placeTank 65 = .ok (.putfield 45, 3) := by decide +kernel
theorem dX4_placeTank_68 : decode cX4_placeTank 68 = .ok (.return_, 1) := by decide +kernel
theorem dX4_add_0 : decode cX4_add 0 = .ok (.aload_n 0, 1) := by decide +kernel
theorem dX4_add_1 : decode cX4_add 1 = .ok (.getfield 33, 3) := by decide +kernel
theorem dX4_add_4 : decode cX4_add 4 = .ok (.bipush 15, 2) := by decide +kernel
theorem dX4_add_6 : decode cX4_add 6 = .ok (.if_icmp .lt 5, 3) := by decide +kernel
theorem dX4_add_9 : decode cX4_add 9 = .ok (.iconst (-1), 1) := by decide +kernel
theorem dX4_add_10 : decode cX4_add 10 = .ok (.ireturn, 1) := by decide +kernel
theorem dX4_add_11 : decode cX4_add 11 = .ok (.aload_n 0, 1) := by decide +kernel
theorem dX4_add_12 : decode cX4_add 12 = .ok (.getfield 9, 3) := by decide +kernel
theorem dX4_add_15 : decode cX4_add 15 = .ok (.aload_n 0, 1) := by decide +kernel
theorem dX4_add_16 : decode cX4_add 16 = .ok (.getfield 33, 3) := by decide +kernel
theorem dX4_add_19 : decode cX4_add 19 = .ok (.iload_n 1, 1) := by decide +kernel
theorem dX4_add_20 : decode cX4_add 20 = .ok (.iastore, 1) := by decide +kernel
theorem dX4_add_21 : decode cX4_add 21 = .ok (.aload_n 0, 1) := by decide +kernel
theorem dX4_add_22 : decode cX4_add 22 = .ok (.getfield 15, 3) := by decide +kernel
theorem dX4_add_25 : decode cX4_add 25 = .ok (.aload_n 0, 1) := by decide +kernel
theorem dX4_add_26 : decode cX4_add 26 = .ok (.getfield 33, 3) := by decide +kernel
theorem dX4_add_29 : decode cX4_add 29 = .ok (.iload_n 2, 1) := by decide +kernel
theorem dX4_add_30 : decode cX4_add 30 = .ok (.iastore, 1) := by decide +kernel
theorem dX4_add_31 : decode cX4_add 31 = .ok (.aload_n 0, 1) := by decide +kernel
theorem dX4_add_32 : decode cX4_add 32 = .ok (.getfield 18, 3) := by decide +kernel
theorem dX4_add_35 : decode cX4_add 35 = .ok (.aload_n 0, 1) := by decide +kernel
theorem dX4_add_36 : decode cX4_add 36 = .ok (.getfield 33, 3) := by decide +kernel
theorem dX4_add_39 : decode cX4_add 39 = .ok (.iload_n 3, 1) := by decide +kernel
theorem dX4_add_40 : decode cX4_add 40 = .ok (.iastore, 1) := by decide +kernel
theorem dX4_add_41 : decode cX4_add 41 = .ok (.aload_n 0, 1) := by decide +kernel
theorem dX4_add_42 : decode cX4_add 42 = .ok (.getfield 21, 3) := by decide +kernel
theorem dX4_add_45 : decode cX4_add 45 = .ok (.aload_n 0, 1) := by decide +kernel
theorem dX4_add_46 : decode cX4_add 46 = .ok (.getfield 33, 3) := by decide +kernel
theorem dX4_add_49 : decode cX4_add 49 = .ok (.iload 4, 2) := by decide +kernel
theorem dX4_add_51 : decode cX4_add 51 = .ok (.iastore, 1) := by decide +kernel
theorem dX4_add_52 : decode cX4_add 52 = .ok (.aload_n 0, 1) := by decide +kernel
theorem dX4_add_53 : decode cX4_add 53 = .ok (.getfield 24, 3) := by decide +kernel
theorem dX4_add_56 : decode cX4_add 56 = .ok (.aload_n 0, 1) := by decide +kernel
theorem dX4_add_57 : decode cX4_add 57 = .ok (.getfield 33, 3) := by decide +kernel
theorem dX4_add_60 : decode cX4_add 60 = .ok (.iload 5, 2) := by decide +kernel
theorem dX4_add_62 : decode cX4_add 62 = .ok (.iastore, 1) := by decide +kernel
theorem dX4_add_63 : decode cX4_add 63 = .ok (.iload_n 1, 1) := by decide +kernel
theorem dX4_add_64 : decode cX4_add 64 = .ok (.ifCond .ne 11, 3) := by decide +kernel
theorem dX4_add_67 : decode cX4_add 67 = .ok (.aload_n 0, 1) := by decide +kernel
theorem dX4_add_68 : decode cX4_add 68 = .ok (.aload_n 0, 1) := by decide +kernel
theorem dX4_add_69 : decode cX4_add 69 = .ok (.getfield 33, 3) := by decide +kernel
theorem dX4_add_72 : decode cX4_add 72 = .ok (.invokevirtual 41, 3) := by decide +kernel
theorem dX4_add_75 : decode cX4_add 75 = .ok (.aload_n 0, 1) := by decide +kernel
theorem dX4_add_76 : decode cX4_add 76 = .ok (.dup, 1) := by decide +kernel
theorem dX4_add_77 : decode cX4_add 77 = .ok (.getfield 33, 3) := by decide +kernel
theorem dX4_add_80 : decode cX4_add 80 = .ok (.iconst 1, 1) := by decide +kernel
theorem dX4_add_81 : decode cX4_add 81 = .ok (.iadd, 1) := by decide +kernel
theorem dX4_add_82 : decode cX4_add 82 = .ok (.putfield 33, 3) := by decide +kernel
theorem dX4_add_85 : decode cX4_add 85 = .ok (.aload_n 0, 1) := by decide +kernel
theorem dX4_add_86 : decode cX4_add 86 = .ok (.getfield 33, 3) := by decide +kernel
theorem dX4_add_89 : decode cX4_add 89 = .ok (.iconst 1, 1) := by decide +kernel
theorem dX4_add_90 : decode cX4_add 90 = .ok (.isub, 1) := by decide +kernel
theorem dX4_add_91 : decode cX4_add 91 = .ok (.ireturn, 1) := by decide +kernel
theorem dX4_there_0 : decode cX4_there 0 = .ok (.iload_n 1, 1) := by decide +kernel
theorem dX4_there_1 : decode cX4_there 1 = .ok (.ifCond .lt 15, 3) := by decide +kernel
theorem dX4_there_4 : decode cX4_there 4 = .ok (.iload_n 1, 1) := by decide +kernel
theorem dX4_there_5 : decode cX4_there 5 = .ok (.aload_n 0, 1) := by decide +kernel
theorem dX4_there_6 : decode cX4_there 6 = .ok (.getfield 33, 3) := by decide +kernel
theorem dX4_there_9 : decode cX4_there 9 = .ok (.if_icmp .ge 7, 3) := by decide +kernel
theorem dX4_there_12 : decode cX4_there 12 = .ok (.iconst 1, 1) := by decide +kernel
theorem dX4_there_13 : decode cX4_there 13 = .ok (.goto 4, 3) := by decide +kernel
theorem dX4_there_16 : decode cX4_there 16 = .ok (.iconst 0, 1) := by decide +kernel
theorem dX4_there_17 : decode cX4_there 17 = .ok (.ireturn, 1) := by decide +kernel
theorem dX4_emptyTanks_0 : decode cX4_emptyTanks 0 = .ok (.iconst 0, 1) := by decide +kernel
theorem dX4_emptyTanks_1 : decode cX4_emptyTanks 1 = .ok (.istore_n 1, 1) := by decide +kernel
theorem dX4_emptyTanks_2 : decode cX4_emptyTanks 2 = .ok (.iload_n 1, 1) := by decide +kernel
theorem dX4_emptyTanks_3 : decode cX4_emptyTanks 3 = .ok (.aload_n 0, 1) := by decide +kernel
theorem dX4_emptyTanks_4 : decode cX4_emptyTanks 4 = .ok (.getfield 45, 3) := by decide +kernel
theorem dX4_emptyTanks_7 : decode cX4_emptyTanks 7 = .ok (.if_icmp .ge 21, 3) := by decide +kernel
theorem dX4_emptyTanks_10 : decode cX4_emptyTanks 10 = .ok (.aload_n 0, 1) := by decide +kernel
theorem dX4_emptyTanks_11 : decode cX4_emptyTanks 11 = .ok (.getfield 24, 3) := by decide +kernel
theorem dX4_emptyTanks_14 : decode cX4_emptyTanks 14 = .ok (.aload_n 0, 1) := by decide +kernel
theorem dX4_emptyTanks_15 : decode cX4_emptyTanks 15 = .ok (.getfield 30, 3) := by decide +kernel
theorem dX4_emptyTanks_18 : decode cX4_emptyTanks 18 = .ok (.iload_n 1, 1) := by decide +kernel
theorem dX4_emptyTanks_19 : decode cX4_emptyTanks 19 = .ok (.iaload, 1) := by decide +kernel
theorem dX4_emptyTanks_20 : decode cX4_emptyTanks 20 = .ok (.iconst 0, 1) := by decide +kernel
theorem dX4_emptyTanks_21 : decode cX4_emptyTanks 21 = .ok (.iastore, 1) := by decide +kernel
theorem dX4_emptyTanks_22 : decode cX4_emptyTanks 22 = .ok (.iinc 1 1, 3) := by decide +kernel
theorem dX4_emptyTanks_25 : decode cX4_emptyTanks 25 = .ok (.goto (-23), 3) := by decide +kernel
theorem dX4_emptyTanks_28 : decode cX4_emptyTanks 28 = .ok (.return_, 1) := by decide +kernel
theorem dX4_put_0 : decode cX4_put 0 = .ok (.aload_n 0, 1) := by decide +kernel
theorem dX4_put_1 : decode cX4_put 1 = .ok (.iload_n 1, 1) := by decide +kernel
theorem dX4_put_2 : decode cX4_put 2 = .ok (.invokevirtual 37, 3) := by decide +kernel
theorem dX4_put_5 : decode cX4_put 5 = .ok (.ifCond .eq 20, 3) := by decide +kernel
theorem dX4_put_8 : decode cX4_put 8 = .ok (.aload_n 0, 1) := by decide +kernel
theorem dX4_put_9 : decode cX4_put 9 = .ok (.getfield 24, 3) := by decide +kernel
theorem dX4_put_12 : decode cX4_put 12 = .ok (.iload_n 1, 1) := by decide +kernel
theorem dX4_put_13 : decode cX4_put 13 = .ok (.iload_n 2, 1) := by decide +kernel
theorem dX4_put_14 : decode cX4_put 14 = .ok (.iconst 0, 1) := by decide +kernel
theorem dX4_put_15 : decode cX4_put 15 = .ok (.aload_n 0, 1) := by decide +kernel
theorem dX4_put_16 : decode cX4_put 16 = .ok (.getfield 21, 3) := by decide +kernel
theorem dX4_put_19 : decode cX4_put 19 = .ok (.iload_n 1, 1) := by decide +kernel
theorem dX4_put_20 : decode cX4_put 20 = .ok (.iaload, 1) := by decide +kernel
theorem dX4_put_21 : decode cX4_put 21 = .ok (.invokestatic 48, 3) := by decide +kernel
theorem dX4_put_24 : decode cX4_put 24 = .ok (.iastore, 1) := by decide +kernel
theorem dX4_put_25 : decode cX4_put 25 = .ok (.return_, 1) := by decide +kernel
theorem dX4_weight_0 : decode cX4_weight 0 = .ok (.iconst 0, 1) := by decide +kernel
theorem dX4_weight_1 : decode cX4_weight 1 = .ok (.istore_n 1, 1) := by decide +kernel
theorem dX4_weight_2 : decode cX4_weight 2 = .ok (.iconst 0, 1) := by decide +kernel
theorem dX4_weight_3 : decode cX4_weight 3 = .ok (.istore_n 2, 1) := by decide +kernel
theorem dX4_weight_4 : decode cX4_weight 4 = .ok (.iload_n 2, 1) := by decide +kernel
theorem dX4_weight_5 : decode cX4_weight 5 = .ok (.aload_n 0, 1) := by decide +kernel
theorem dX4_weight_6 : decode cX4_weight 6 = .ok (.getfield 33, 3) := by decide +kernel
theorem dX4_weight_9 : decode cX4_weight 9 = .ok (.if_icmp .ge 18, 3) := by decide +kernel
theorem dX4_weight_12 : decode cX4_weight 12 = .ok (.iload_n 1, 1) := by decide +kernel
theorem dX4_weight_13 : decode cX4_weight 13 = .ok (.aload_n 0, 1) := by decide +kernel
theorem dX4_weight_14 : decode cX4_weight 14 = .ok (.getfield 24, 3) := by decide +kernel
theorem dX4_weight_17 : decode cX4_weight 17 = .ok (.iload_n 2, 1) := by decide +kernel
theorem dX4_weight_18 : decode cX4_weight 18 = .ok (.iaload, 1) := by decide +kernel
theorem dX4_weight_19 : decode cX4_weight 19 = .ok (.iadd, 1) := by decide +kernel
theorem dX4_weight_20 : decode cX4_weight 20 = .ok (.istore_n 1, 1) := by decide +kernel
theorem dX4_weight_21 : decode cX4_weight 21 = .ok (.iinc 2 1, 3) := by decide +kernel
theorem dX4_weight_24 : decode cX4_weight 24 = .ok (.goto (-20), 3) := by decide +kernel
theorem dX4_weight_27 : decode cX4_weight 27 = .ok (.iload_n 1, 1) := by decide +kernel
theorem dX4_weight_28 : decode cX4_weight 28 = .ok (.ireturn, 1) := by decide +kernel
theorem dX4_momentSum_0 : decode cX4_momentSum 0 = .ok (.iconst 0, 1) := by decide +kernel
theorem dX4_momentSum_1 : decode cX4_momentSum 1 = .ok (.istore_n 1, 1) := by decide +kernel
theorem dX4_momentSum_2 : decode cX4_momentSum 2 = .ok (.iconst 0, 1) := by decide +kernel
theorem dX4_momentSum_3 : decode cX4_momentSum 3 = .ok (.istore_n 2, 1) := by decide +kernel
theorem dX4_momentSum_4 : decode cX4_momentSum 4 = .ok (.iload_n 2, 1) := by decide +kernel
theorem dX4_momentSum_5 : decode cX4_momentSum 5 = .ok (.aload_n 0, 1) := by decide +kernel
theorem dX4_momentSum_6 : decode cX4_momentSum 6 = .ok (.getfield 33, 3) := by decide +kernel
theorem dX4_momentSum_9 : decode cX4_momentSum 9 = .ok (.if_icmp .ge 25, 3) := by decide +kernel
theorem dX4_momentSum_12 : decode cX4_momentSum 12 = .ok (.iload_n 1, 1) := by decide +kernel
theorem dX4_momentSum_13 : decode cX4_momentSum 13 = .ok (.aload_n 0, 1) := by decide +kernel
theorem dX4_momentSum_14 : decode cX4_momentSum 14 = .ok (.getfield 15, 3) := by decide +kernel
theorem dX4_momentSum_17 : decode cX4_momentSum 17 = .ok (.iload_n 2, 1) := by decide +kernel
theorem dX4_momentSum_18 : decode cX4_momentSum 18 = .ok (.iaload, 1) := by decide +kernel
theorem dX4_momentSum_19 : decode cX4_momentSum 19 = .ok (.aload_n 0, 1) := by decide +kernel
theorem dX4_momentSum_20 : decode cX4_momentSum 20 = .ok (.getfield 24, 3) := by decide +kernel
theorem dX4_momentSum_23 : decode cX4_momentSum 23 = .ok (.iload_n 2, 1) := by decide +kernel
theorem dX4_momentSum_24 : decode cX4_momentSum 24 = .ok (.iaload, 1) := by decide +kernel
theorem dX4_momentSum_25 : decode cX4_momentSum 25 = .ok (.imul, 1) := by decide +kernel
theorem dX4_momentSum_26 : decode cX4_momentSum 26 = .ok (.iadd, 1) := by decide +kernel
theorem dX4_momentSum_27 : decode cX4_momentSum 27 = .ok (.istore_n 1, 1) := by decide +kernel
theorem dX4_momentSum_28 : decode cX4_momentSum 28 = .ok (.iinc 2 1, 3) := by decide +kernel
theorem dX4_momentSum_31 : decode cX4_momentSum 31 = .ok (.goto (-27), 3) := by decide +kernel
theorem dX4_momentSum_34 : decode cX4_momentSum 34 = .ok (.iload_n 1, 1) := by decide +kernel
theorem dX4_momentSum_35 : decode cX4_momentSum 35 = .ok (.ireturn, 1) := by decide +kernel
theorem dX4_listSum_0 : decode cX4_listSum 0 = .ok (.iconst 0, 1) := by decide +kernel
theorem dX4_listSum_1 : decode cX4_listSum 1 = .ok (.istore_n 1, 1) := by decide +kernel
theorem dX4_listSum_2 : decode cX4_listSum 2 = .ok (.iconst 0, 1) := by decide +kernel
theorem dX4_listSum_3 : decode cX4_listSum 3 = .ok (.istore_n 2, 1) := by decide +kernel
theorem dX4_listSum_4 : decode cX4_listSum 4 = .ok (.iload_n 2, 1) := by decide +kernel
theorem dX4_listSum_5 : decode cX4_listSum 5 = .ok (.aload_n 0, 1) := by decide +kernel
theorem dX4_listSum_6 : decode cX4_listSum 6 = .ok (.getfield 33, 3) := by decide +kernel
theorem dX4_listSum_9 : decode cX4_listSum 9 = .ok (.if_icmp .ge 25, 3) := by decide +kernel
theorem dX4_listSum_12 : decode cX4_listSum 12 = .ok (.iload_n 1, 1) := by decide +kernel
theorem dX4_listSum_13 : decode cX4_listSum 13 = .ok (.aload_n 0, 1) := by decide +kernel
theorem dX4_listSum_14 : decode cX4_listSum 14 = .ok (.getfield 18, 3) := by decide +kernel
theorem dX4_listSum_17 : decode cX4_listSum 17 = .ok (.iload_n 2, 1) := by decide +kernel
theorem dX4_listSum_18 : decode cX4_listSum 18 = .ok (.iaload, 1) := by decide +kernel
theorem dX4_listSum_19 : decode cX4_listSum 19 = .ok (.aload_n 0, 1) := by decide +kernel
theorem dX4_listSum_20 : decode cX4_listSum 20 = .ok (.getfield 24, 3) := by decide +kernel
theorem dX4_listSum_23 : decode cX4_listSum 23 = .ok (.iload_n 2, 1) := by decide +kernel
theorem dX4_listSum_24 : decode cX4_listSum 24 = .ok (.iaload, 1) := by decide +kernel
theorem dX4_listSum_25 : decode cX4_listSum 25 = .ok (.imul, 1) := by decide +kernel
theorem dX4_listSum_26 : decode cX4_listSum 26 = .ok (.iadd, 1) := by decide +kernel
theorem dX4_listSum_27 : decode cX4_listSum 27 = .ok (.istore_n 1, 1) := by decide +kernel
theorem dX4_listSum_28 : decode cX4_listSum 28 = .ok (.iinc 2 1, 3) := by decide +kernel
theorem dX4_listSum_31 : decode cX4_listSum 31 = .ok (.goto (-27), 3) := by decide +kernel
theorem dX4_listSum_34 : decode cX4_listSum 34 = .ok (.iload_n 1, 1) := by decide +kernel
theorem dX4_listSum_35 : decode cX4_listSum 35 = .ok (.ireturn, 1) := by decide +kernel
theorem dX4_isA_0 : decode cX4_isA 0 = .ok (.aload_n 0, 1) := by decide +kernel
theorem dX4_isA_1 : decode cX4_isA 1 = .ok (.iload_n 1, 1) := by decide +kernel
theorem dX4_isA_2 : decode cX4_isA 2 = .ok (.invokevirtual 37, 3) := by decide +kernel
theorem dX4_isA_5 : decode cX4_isA 5 = .ok (.ifCond .eq 17, 3) := by decide +kernel
theorem dX4_isA_8 : decode cX4_isA 8 = .ok (.aload_n 0, 1) := by decide +kernel
theorem dX4_isA_9 : decode cX4_isA 9 = .ok (.getfield 9, 3) := by decide +kernel
theorem dX4_isA_12 : decode cX4_isA 12 = .ok (.iload_n 1, 1) := by decide +kernel
theorem dX4_isA_13 : decode cX4_isA 13 = .ok (.iaload, 1) := by decide +kernel
theorem dX4_isA_14 : decode cX4_isA 14 = .ok (.iload_n 2, 1) := by decide +kernel
theorem dX4_isA_15 : decode cX4_isA 15 = .ok (.if_icmp .ne 7, 3) := by decide +kernel
theorem dX4_isA_18 : decode cX4_isA 18 = .ok (.iconst 1, 1) := by decide +kernel
theorem dX4_isA_19 : decode cX4_isA 19 = .ok (.goto 4, 3) := by decide +kernel
theorem dX4_isA_22 : decode cX4_isA 22 = .ok (.iconst 0, 1) := by decide +kernel
theorem dX4_isA_23 : decode cX4_isA 23 = .ok (.ireturn, 1) := by decide +kernel
theorem dX4_save_0 : decode cX4_save 0 = .ok (.aload_n 0, 1) := by decide +kernel
theorem dX4_save_1 : decode cX4_save 1 = .ok (.getfield 24, 3) := by decide +kernel
theorem dX4_save_4 : decode cX4_save 4 = .ok (.iconst 0, 1) := by decide +kernel
theorem dX4_save_5 : decode cX4_save 5 = .ok (.aload_n 0, 1) := by decide +kernel
theorem dX4_save_6 : decode cX4_save 6 = .ok (.getfield 27, 3) := by decide +kernel
theorem dX4_save_9 : decode cX4_save 9 = .ok (.iconst 0, 1) := by decide +kernel
theorem dX4_save_10 : decode cX4_save 10 = .ok (.bipush 15, 2) := by decide +kernel
theorem dX4_save_12 : decode cX4_save 12 = .ok (.invokestatic 62, 3) := by decide +kernel
theorem dX4_save_15 : decode cX4_save 15 = .ok (.return_, 1) := by decide +kernel
theorem dX4_give_0 : decode cX4_give 0 = .ok (.aload_n 0, 1) := by decide +kernel
theorem dX4_give_1 : decode cX4_give 1 = .ok (.iload_n 1, 1) := by decide +kernel
theorem dX4_give_2 : decode cX4_give 2 = .ok (.invokevirtual 37, 3) := by decide +kernel
theorem dX4_give_5 : decode cX4_give 5 = .ok (.ifCond .eq 26, 3) := by decide +kernel
theorem dX4_give_8 : decode cX4_give 8 = .ok (.aload_n 0, 1) := by decide +kernel
theorem dX4_give_9 : decode cX4_give 9 = .ok (.getfield 24, 3) := by decide +kernel
theorem dX4_give_12 : decode cX4_give 12 = .ok (.iload_n 1, 1) := by decide +kernel
theorem dX4_give_13 : decode cX4_give 13 = .ok (.aload_n 0, 1) := by decide +kernel
theorem dX4_give_14 : decode cX4_give 14 = .ok (.getfield 21, 3) := by decide +kernel
theorem dX4_give_17 : decode cX4_give 17 = .ok (.iload_n 1, 1) := by decide +kernel
theorem dX4_give_18 : decode cX4_give 18 = .ok (.iaload, 1) := by decide +kernel
theorem dX4_give_19 : decode cX4_give 19 = .ok (.aload_n 0, 1) := by decide +kernel
theorem dX4_give_20 : decode cX4_give 20 = .ok (.getfield 24, 3) := by decide +kernel
theorem dX4_give_23 : decode cX4_give 23 = .ok (.iload_n 1, 1) := by decide +kernel
theorem dX4_give_24 : decode cX4_give 24 = .ok (.iaload, 1) := by decide +kernel
theorem dX4_give_25 : decode cX4_give 25 = .ok (.iload_n 2, 1) := by decide +kernel
theorem dX4_give_26 : decode cX4_give 26 = .ok (.iadd, 1) := by decide +kernel
theorem dX4_give_27 : decode cX4_give 27 = .ok (.invokestatic 52, 3) := by decide +kernel
theorem dX4_give_30 : decode cX4_give 30 = .ok (.iastore, 1) := by decide +kernel
theorem dX4_give_31 : decode cX4_give 31 = .ok (.return_, 1) := by decide +kernel
theorem dX4_restore_0 : decode cX4_restore 0 = .ok (.aload_n 0, 1) := by decide +kernel
theorem dX4_restore_1 : decode cX4_restore 1 = .ok (.getfield 27, 3) := by decide +kernel
theorem dX4_restore_4 : decode cX4_restore 4 = .ok (.iconst 0, 1) := by decide +kernel
theorem dX4_restore_5 : decode cX4_restore 5 = .ok (.aload_n 0, 1) := by decide +kernel
theorem dX4_restore_6 : decode cX4_restore 6 = .ok (.getfield 24, 3) := by decide +kernel
theorem dX4_restore_9 : decode cX4_restore 9 = .ok (.iconst 0, 1) := by decide +kernel
theorem dX4_restore_10 : decode cX4_restore 10 = .ok (.bipush 15, 2) := by decide +kernel
theorem dX4_restore_12 : decode cX4_restore 12 = .ok (.invokestatic 62, 3) := by decide +kernel
theorem dX4_restore_15 : decode cX4_restore 15 = .ok (.return_, 1) := by decide +kernel
theorem dX4_room_0 : decode cX4_room 0 = .ok (.aload_n 0, 1) := by decide +kernel
theorem dX4_room_1 : decode cX4_room 1 = .ok (.iload_n 1, 1) := by decide +kernel
theorem dX4_room_2 : decode cX4_room 2 = .ok (.invokevirtual 37, 3) := by decide +kernel
theorem dX4_room_5 : decode cX4_room 5 = .ok (.ifCond .eq 19, 3) := by decide +kernel
theorem dX4_room_8 : decode cX4_room 8 = .ok (.aload_n 0, 1) := by decide +kernel
theorem dX4_room_9 : decode cX4_room 9 = .ok (.getfield 21, 3) := by decide +kernel
theorem dX4_room_12 : decode cX4_room 12 = .ok (.iload_n 1, 1) := by decide +kernel
theorem dX4_room_13 : decode cX4_room 13 = .ok (.iaload, 1) := by decide +kernel
theorem dX4_room_14 : decode cX4_room 14 = .ok (.aload_n 0, 1) := by decide +kernel
theorem dX4_room_15 : decode cX4_room 15 = .ok (.getfield 24, 3) := by decide +kernel
theorem dX4_room_18 : decode cX4_room 18 = .ok (.iload_n 1, 1) := by decide +kernel
theorem dX4_room_19 : decode cX4_room 19 = .ok (.iaload, 1) := by decide +kernel
theorem dX4_room_20 : decode cX4_room 20 = .ok (.isub, 1) := by decide +kernel
theorem dX4_room_21 : decode cX4_room 21 = .ok (.goto 4, 3) := by decide +kernel
theorem dX4_room_24 : decode cX4_room 24 = .ok (.iconst 0, 1) := by decide +kernel
theorem dX4_room_25 : decode cX4_room 25 = .ok (.ireturn, 1) := by decide +kernel
theorem dX4_tanksHold_0 : decode cX4_tanksHold 0 = .ok (.iconst 0, 1) := by decide +kernel
theorem dX4_tanksHold_1 : decode cX4_tanksHold 1 = .ok (.istore_n 1, 1) := by decide +kernel
theorem dX4_tanksHold_2 : decode cX4_tanksHold 2 = .ok (.iconst 0, 1) := by decide +kernel
theorem dX4_tanksHold_3 : decode cX4_tanksHold 3 = .ok (.istore_n 2, 1) := by decide +kernel
theorem dX4_tanksHold_4 : decode cX4_tanksHold 4 = .ok (.iload_n 2, 1) := by decide +kernel
theorem dX4_tanksHold_5 : decode cX4_tanksHold 5 = .ok (.aload_n 0, 1) := by decide +kernel
theorem dX4_tanksHold_6 : decode cX4_tanksHold 6 = .ok (.getfield 45, 3) := by decide +kernel
theorem dX4_tanksHold_9 : decode cX4_tanksHold 9 = .ok (.if_icmp .ge 23, 3) := by decide +kernel
theorem dX4_tanksHold_12 : decode cX4_tanksHold 12 = .ok (.iload_n 1, 1) := by decide +kernel
theorem dX4_tanksHold_13 : decode cX4_tanksHold 13 = .ok (.aload_n 0, 1) := by decide +kernel
theorem dX4_tanksHold_14 : decode cX4_tanksHold 14 = .ok (.getfield 24, 3) := by decide +kernel
theorem dX4_tanksHold_17 : decode cX4_tanksHold 17 = .ok (.aload_n 0, 1) := by decide +kernel
theorem dX4_tanksHold_18 : decode cX4_tanksHold 18 = .ok (.getfield 30, 3) := by decide +kernel
theorem dX4_tanksHold_21 : decode cX4_tanksHold 21 = .ok (.iload_n 2, 1) := by decide +kernel
theorem dX4_tanksHold_22 : decode cX4_tanksHold 22 = .ok (.iaload, 1) := by decide +kernel
theorem dX4_tanksHold_23 : decode cX4_tanksHold 23 = .ok (.iaload, 1) := by decide +kernel
theorem dX4_tanksHold_24 : decode cX4_tanksHold 24 = .ok (.iadd, 1) := by decide +kernel
theorem dX4_tanksHold_25 : decode cX4_tanksHold 25 = .ok (.istore_n 1, 1) := by decide +kernel
theorem dX4_tanksHold_26 : decode cX4_tanksHold 26 = .ok (.iinc 2 1, 3) := by decide +kernel
theorem dX4_tanksHold_29 : decode cX4_tanksHold 29 = .ok (.goto (-25), 3) := by decide +kernel
theorem dX4_tanksHold_32 : decode cX4_tanksHold 32 = .ok (.iload_n 1, 1) := by decide +kernel
theorem dX4_tanksHold_33 : decode cX4_tanksHold 33 = .ok (.ireturn, 1) := by decide +kernel
theorem dX4_tanksMoment_0 : decode cX4_tanksMoment 0 = .ok (.iconst 0, 1) := by decide +kernel
theorem dX4_tanksMoment_1 : decode cX4_tanksMoment 1 = .ok (.istore_n 1, 1) := by decide +kernel
theorem dX4_tanksMoment_2 : decode cX4_tanksMoment 2 = .ok (.iconst 0, 1) := by decide +kernel
theorem dX4_tanksMoment_3 : decode cX4_tanksMoment 3 = .ok (.istore_n 2, 1) := by decide +kernel
theorem dX4_tanksMoment_4 : decode cX4_tanksMoment 4 = .ok (.iload_n 2, 1) := by decide +kernel
theorem dX4_tanksMoment_5 : decode cX4_tanksMoment 5 = .ok (.aload_n 0, 1) := by decide +kernel
theorem dX4_tanksMoment_6 : decode cX4_tanksMoment 6 = .ok (.getfield 45, 3) := by decide +kernel
theorem dX4_tanksMoment_9 : decode cX4_tanksMoment 9 = .ok (.if_icmp .ge 35, 3) := by decide +kernel
theorem dX4_tanksMoment_12 : decode cX4_tanksMoment 12 = .ok (.iload_n 1, 1) := by decide +kernel
theorem dX4_tanksMoment_13 : decode cX4_tanksMoment 13 = .ok (.aload_n 0, 1) := by decide +kernel
theorem dX4_tanksMoment_14 : decode cX4_tanksMoment 14 = .ok (.getfield 15, 3) := by decide +kernel
theorem dX4_tanksMoment_17 : decode cX4_tanksMoment 17 = .ok (.aload_n 0, 1) := by decide +kernel
theorem dX4_tanksMoment_18 : decode cX4_tanksMoment 18 = .ok (.getfield 30, 3) := by decide +kernel
theorem dX4_tanksMoment_21 : decode cX4_tanksMoment 21 = .ok (.iload_n 2, 1) := by decide +kernel
theorem dX4_tanksMoment_22 : decode cX4_tanksMoment 22 = .ok (.iaload, 1) := by decide +kernel
theorem dX4_tanksMoment_23 : decode cX4_tanksMoment 23 = .ok (.iaload, 1) := by decide +kernel
theorem dX4_tanksMoment_24 : decode cX4_tanksMoment 24 = .ok (.aload_n 0, 1) := by decide +kernel
theorem dX4_tanksMoment_25 : decode cX4_tanksMoment 25 = .ok (.getfield 24, 3) := by decide +kernel
theorem dX4_tanksMoment_28 : decode cX4_tanksMoment 28 = .ok (.aload_n 0, 1) := by decide +kernel
theorem dX4_tanksMoment_29 : decode cX4_tanksMoment 29 = .ok (.getfield 30, 3) := by decide +kernel
theorem dX4_tanksMoment_32 : decode cX4_tanksMoment 32 = .ok (.iload_n 2, 1) := by decide +kernel
theorem dX4_tanksMoment_33 : decode cX4_tanksMoment 33 = .ok (.iaload, 1) := by decide +kernel
theorem dX4_tanksMoment_34 : decode cX4_tanksMoment 34 = .ok (.iaload, 1) := by decide +kernel
theorem dX4_tanksMoment_35 : decode cX4_tanksMoment 35 = .ok (.imul, 1) := by decide +kernel
theorem dX4_tanksMoment_36 : decode cX4_tanksMoment 36 = .ok (.iadd, 1) := by decide +kernel
theorem dX4_tanksMoment_37 : decode cX4_tanksMoment 37 = .ok (.istore_n 1, 1) := by decide +kernel
theorem dX4_tanksMoment_38 : decode cX4_tanksMoment 38 = .ok (.iinc 2 1, 3) := by decide +kernel
theorem dX4_tanksMoment_41 : decode cX4_tanksMoment 41 = .ok (.goto (-37), 3) := by decide +kernel
theorem dX4_tanksMoment_44 : decode cX4_tanksMoment 44 = .ok (.iload_n 1, 1) := by decide +kernel
theorem dX4_tanksMoment_45 : decode cX4_tanksMoment 45 = .ok (.ireturn, 1) := by decide +kernel
theorem dX4_fullestTank_0 : decode cX4_fullestTank 0 = .ok (.aload_n 0, 1) := by decide +kernel
theorem dX4_fullestTank_1 : decode cX4_fullestTank 1 = .ok (.getfield 30, 3) := by decide +kernel
theorem dX4_fullestTank_4 : decode cX4_fullestTank 4 = .ok (.iconst 0, 1) := by decide +kernel
theorem dX4_fullestTank_5 : decode cX4_fullestTank 5 = .ok (.iaload, 1) := by decide +kernel
theorem dX4_fullestTank_6 : decode cX4_fullestTank 6 = .ok (.istore_n 1, 1) := by decide +kernel
theorem dX4_fullestTank_7 : decode cX4_fullestTank 7 = .ok (.iconst 1, 1) := by decide +kernel
theorem dX4_fullestTank_8 : decode cX4_fullestTank 8 = .ok (.istore_n 2, 1) := by decide +kernel
theorem dX4_fullestTank_9 : decode cX4_fullestTank 9 = .ok (.iload_n 2, 1) := by decide +kernel
theorem dX4_fullestTank_10 : decode cX4_fullestTank 10 = .ok (.aload_n 0, 1) := by decide +kernel
theorem dX4_fullestTank_11 : decode cX4_fullestTank 11 = .ok (.getfield 45, 3) := by decide +kernel
theorem dX4_fullestTank_14 : decode cX4_fullestTank 14 = .ok (.if_icmp .ge 53, 3) := by decide +kernel
theorem dX4_fullestTank_17 : decode cX4_fullestTank 17 = .ok (.aload_n 0, 1) := by decide +kernel
theorem dX4_fullestTank_18 : decode cX4_fullestTank 18 = .ok (.getfield 30, 3) := by decide +kernel
theorem dX4_fullestTank_21 : decode cX4_fullestTank 21 = .ok (.iload_n 2, 1) := by decide +kernel
theorem dX4_fullestTank_22 : decode cX4_fullestTank 22 = .ok (.iaload, 1) := by decide +kernel
theorem dX4_fullestTank_23 : decode cX4_fullestTank 23 = .ok (.istore_n 3, 1) := by decide +kernel
theorem dX4_fullestTank_24 : decode cX4_fullestTank 24 = .ok (.aload_n 0, 1) := by decide +kernel
theorem dX4_fullestTank_25 : decode cX4_fullestTank 25 = .ok (.getfield 24, 3) := by decide +kernel
theorem dX4_fullestTank_28 : decode cX4_fullestTank 28 = .ok (.iload_n 3, 1) := by decide +kernel
theorem dX4_fullestTank_29 : decode cX4_fullestTank 29 = .ok (.iaload, 1) := by decide +kernel
theorem dX4_fullestTank_30 : decode cX4_fullestTank 30 = .ok (.aload_n 0, 1) := by decide +kernel
theorem dX4_fullestTank_31 : decode cX4_fullestTank 31 = .ok (.getfield 24, 3) := by decide +kernel
theorem dX4_fullestTank_34 : decode cX4_fullestTank 34 = .ok (.iload_n 1, 1) := by decide +kernel
theorem dX4_fullestTank_35 : decode cX4_fullestTank 35 = .ok (.iaload, 1) := by decide +kernel
theorem dX4_fullestTank_36 : decode cX4_fullestTank 36 = .ok (.if_icmp .gt 23, 3) := by decide +kernel
theorem dX4_fullestTank_39 : decode cX4_fullestTank 39 = .ok (.aload_n 0, 1) := by decide +kernel
theorem dX4_fullestTank_40 : decode cX4_fullestTank 40 = .ok (.getfield 24, 3) := by decide +kernel
theorem dX4_fullestTank_43 : decode cX4_fullestTank 43 = .ok (.iload_n 3, 1) := by decide +kernel
theorem dX4_fullestTank_44 : decode cX4_fullestTank 44 = .ok (.iaload, 1) := by decide +kernel
theorem dX4_fullestTank_45 : decode cX4_fullestTank 45 = .ok (.aload_n 0, 1) := by decide +kernel
theorem dX4_fullestTank_46 : decode cX4_fullestTank 46 = .ok (.getfield 24, 3) := by decide +kernel
theorem dX4_fullestTank_49 : decode cX4_fullestTank 49 = .ok (.iload_n 1, 1) := by decide +kernel
theorem dX4_fullestTank_50 : decode cX4_fullestTank 50 = .ok (.iaload, 1) := by decide +kernel
theorem dX4_fullestTank_51 : decode cX4_fullestTank 51 = .ok (.if_icmp .ne 10, 3) := by decide +kernel
theorem dX4_fullestTank_54 : decode cX4_fullestTank 54 = .ok (.iload_n 3, 1) := by decide +kernel
theorem dX4_fullestTank_55 : decode cX4_fullestTank 55 = .ok (.iload_n 1, 1) := by decide +kernel
theorem dX4_fullestTank_56 : decode cX4_fullestTank 56 = .ok (.if_icmp .ge 5, 3) := by decide +kernel
theorem dX4_fullestTank_59 : decode cX4_fullestTank 59 = .ok (.iload_n 3, 1) := by decide +kernel
theorem dX4_fullestTank_60 : decode cX4_fullestTank 60 = .ok (.istore_n 1, 1) := by decide +kernel
theorem dX4_fullestTank_61 : decode cX4_fullestTank 61 = .ok (.iinc 2 1, 3) := by decide +kernel
theorem dX4_fullestTank_64 : decode cX4_fullestTank 64 = .ok (.goto (-55), 3) := by decide +kernel
theorem dX4_fullestTank_67 : decode cX4_fullestTank 67 = .ok (.iload_n 1, 1) := by decide +kernel
theorem dX4_fullestTank_68 : decode cX4_fullestTank 68 = .ok (.ireturn, 1) := by decide +kernel
theorem dX4_emptyFullestFirst_0 : decode cX4_emptyFullestFirst 0 = .ok (.iload_n 1, 1) := by decide +kernel
theorem dX4_emptyFullestFirst_1 : decode cX4_emptyFullestFirst 1 = .ok (.istore_n 2, 1) := by decide +kernel
theorem dX4_emptyFullestFirst_2 : decode cX4_emptyFullestFirst 2 = .ok (.iconst 0, 1) := by decide +kernel
theorem dX4_emptyFullestFirst_3 : decode cX4_emptyFullestFirst 3 = .ok (.istore_n 3, 1) := by decide +kernel
theorem dX4_emptyFullestFirst_4 : decode cX4_emptyFullestFirst 4 = .ok (.iload_n 3, 1) := by decide +kernel
theorem dX4_emptyFullestFirst_5 : decode cX4_emptyFullestFirst 5 = .ok (.aload_n 0, 1) := by decide +kernel
theorem dX4_emptyFullestFirst_6 : decode cX4_emptyFullestFirst 6 = .ok (.getfield 45, 3) := by decide +kernel
theorem dX4_emptyFullestFirst_9 : decode cX4_emptyFullestFirst 9 = .ok (.if_icmp .ge 49, 3) := by decide +kernel
theorem dX4_emptyFullestFirst_12 : decode cX4_emptyFullestFirst 12 = .ok (.iload_n 2, 1) := by decide +kernel
theorem dX4_emptyFullestFirst_13 : decode cX4_emptyFullestFirst 13 = .ok (.ifCond .le 45, 3) := by decide +kernel
theorem dX4_emptyFullestFirst_16 : decode cX4_emptyFullestFirst 16 = .ok (.aload_n 0, 1) := by decide +kernel
theorem dX4_emptyFullestFirst_17 : decode cX4_emptyFullestFirst 17 = .ok (.invokevirtual 58, 3) := by decide +kernel
theorem dX4_emptyFullestFirst_20 : decode cX4_emptyFullestFirst 20 = .ok (.istore 4, 2) := by decide +kernel
theorem dX4_emptyFullestFirst_22 : decode cX4_emptyFullestFirst 22 = .ok (.iload_n 2, 1) := by decide +kernel
theorem dX4_emptyFullestFirst_23 : decode cX4_emptyFullestFirst 23 = .ok (.aload_n 0, 1) := by decide +kernel
theorem dX4_emptyFullestFirst_24 : decode cX4_emptyFullestFirst 24 = .ok (.getfield 24, 3) := by decide +kernel
theorem dX4_emptyFullestFirst_27 : decode cX4_emptyFullestFirst 27 = .ok (.iload 4, 2) := by decide +kernel
theorem dX4_emptyFullestFirst_29 : decode cX4_emptyFullestFirst 29 = .ok (.iaload, 1) := by decide +kernel
theorem dX4_emptyFullestFirst_30 : decode cX4_emptyFullestFirst 30 = .ok (.invokestatic 52, 3) := by decide +kernel
theorem dX4_emptyFullestFirst_33 : decode cX4_emptyFullestFirst 33 = .ok (.istore 5, 2) := by decide +kernel
theorem dX4_emptyFullestFirst_35 : decode cX4_emptyFullestFirst 35 = .ok (.aload_n 0, 1) := by decide +kernel
theorem dX4_emptyFullestFirst_36 : decode cX4_emptyFullestFirst 36 = .ok (.getfield 24, 3) := by decide +kernel
theorem dX4_emptyFullestFirst_39 : decode cX4_emptyFullestFirst 39 = .ok (.iload 4, 2) := by decide +kernel
theorem dX4_emptyFullestFirst_41 : decode cX4_emptyFullestFirst 41 = .ok (.dup2, 1) := by decide +kernel
theorem dX4_emptyFullestFirst_42 : decode cX4_emptyFullestFirst 42 = .ok (.iaload, 1) := by decide +kernel
theorem dX4_emptyFullestFirst_43 : decode cX4_emptyFullestFirst 43 = .ok (.iload 5, 2) := by decide +kernel
theorem dX4_emptyFullestFirst_45 : decode cX4_emptyFullestFirst 45 = .ok (.isub, 1) := by decide +kernel
theorem dX4_emptyFullestFirst_46 : decode cX4_emptyFullestFirst 46 = .ok (.iastore, 1) := by decide +kernel
theorem dX4_emptyFullestFirst_47 : decode cX4_emptyFullestFirst 47 = .ok (.iload_n 2, 1) := by decide +kernel
theorem dX4_emptyFullestFirst_48 : decode cX4_emptyFullestFirst 48 = .ok (.iload 5, 2) := by decide +kernel
theorem dX4_emptyFullestFirst_50 : decode cX4_emptyFullestFirst 50 = .ok (.isub, 1) := by decide +kernel
theorem dX4_emptyFullestFirst_51 : decode cX4_emptyFullestFirst 51 = .ok (.istore_n 2, 1) := by decide +kernel
theorem dX4_emptyFullestFirst_52 : decode cX4_emptyFullestFirst 52 = .ok (.iinc 3 1, 3) := by decide +kernel
theorem dX4_emptyFullestFirst_55 : decode cX4_emptyFullestFirst 55 = .ok (.goto (-51), 3) := by decide +kernel
theorem dX4_emptyFullestFirst_58 : decode cX4_emptyFullestFirst 58 = .ok (.return_, 1) := by decide +kernel
theorem dX4_thatHold_0 : decode cX4_thatHold 0 = .ok (.iconst 0, 1) := by decide +kernel
theorem dX4_thatHold_1 : decode cX4_thatHold 1 = .ok (.istore_n 1, 1) := by decide +kernel
theorem dX4_thatHold_2 : decode cX4_thatHold 2 = .ok (.iconst 0, 1) := by decide +kernel
theorem dX4_thatHold_3 : decode cX4_thatHold 3 = .ok (.istore_n 2, 1) := by decide +kernel
theorem dX4_thatHold_4 : decode cX4_thatHold 4 = .ok (.iload_n 2, 1) := by decide +kernel
theorem dX4_thatHold_5 : decode cX4_thatHold 5 = .ok (.aload_n 0, 1) := by decide +kernel
theorem dX4_thatHold_6 : decode cX4_thatHold 6 = .ok (.getfield 33, 3) := by decide +kernel
theorem dX4_thatHold_9 : decode cX4_thatHold 9 = .ok (.if_icmp .ge 26, 3) := by decide +kernel
theorem dX4_thatHold_12 : decode cX4_thatHold 12 = .ok (.iload_n 1, 1) := by decide +kernel
theorem dX4_thatHold_13 : decode cX4_thatHold 13 = .ok (.aload_n 0, 1) := by decide +kernel
theorem dX4_thatHold_14 : decode cX4_thatHold 14 = .ok (.getfield 21, 3) := by decide +kernel
theorem dX4_thatHold_17 : decode cX4_thatHold 17 = .ok (.iload_n 2, 1) := by decide +kernel
theorem dX4_thatHold_18 : decode cX4_thatHold 18 = .ok (.iaload, 1) := by decide +kernel
theorem dX4_thatHold_19 : decode cX4_thatHold 19 = .ok (.ifCond .le 7, 3) := by decide +kernel
theorem dX4_thatHold_22 : decode cX4_thatHold 22 = .ok (.iconst 1, 1) := by decide +kernel
theorem dX4_thatHold_23 : decode cX4_thatHold 23 = .ok (.goto 4, 3) := by decide +kernel
theorem dX4_thatHold_26 : decode cX4_thatHold 26 = .ok (.iconst 0, 1) := by decide +kernel
theorem dX4_thatHold_27 : decode cX4_thatHold 27 = .ok (.iadd, 1) := by decide +kernel
theorem dX4_thatHold_28 : decode cX4_thatHold 28 = .ok (.istore_n 1, 1) := by decide +kernel
theorem dX4_thatHold_29 : decode cX4_thatHold 29 = .ok (.iinc 2 1, 3) := by decide +kernel
theorem dX4_thatHold_32 : decode cX4_thatHold 32 = .ok (.goto (-28), 3) := by decide +kernel
theorem dX4_thatHold_35 : decode cX4_thatHold 35 = .ok (.iload_n 1, 1) := by decide +kernel
theorem dX4_thatHold_36 : decode cX4_thatHold 36 = .ok (.ireturn, 1) := by decide +kernel
theorem dX4_holding_0 : decode cX4_holding 0 = .ok (.iload_n 1, 1) := by decide +kernel
theorem dX4_holding_1 : decode cX4_holding 1 = .ok (.istore_n 2, 1) := by decide +kernel
theorem dX4_holding_2 : decode cX4_holding 2 = .ok (.iconst 0, 1) := by decide +kernel
theorem dX4_holding_3 : decode cX4_holding 3 = .ok (.istore_n 3, 1) := by decide +kernel
theorem dX4_holding_4 : decode cX4_holding 4 = .ok (.iload_n 3, 1) := by decide +kernel
theorem dX4_holding_5 : decode cX4_holding 5 = .ok (.aload_n 0, 1) := by decide +kernel
theorem dX4_holding_6 : decode cX4_holding 6 = .ok (.getfield 33, 3) := by decide +kernel
theorem dX4_holding_9 : decode cX4_holding 9 = .ok (.if_icmp .ge 27, 3) := by decide +kernel
theorem dX4_holding_12 : decode cX4_holding 12 = .ok (.aload_n 0, 1) := by decide +kernel
theorem dX4_holding_13 : decode cX4_holding 13 = .ok (.getfield 21, 3) := by decide +kernel
theorem dX4_holding_16 : decode cX4_holding 16 = .ok (.iload_n 3, 1) := by decide +kernel
theorem dX4_holding_17 : decode cX4_holding 17 = .ok (.iaload, 1) := by decide +kernel
theorem dX4_holding_18 : decode cX4_holding 18 = .ok (.ifCond .le 12, 3) := by decide +kernel
theorem dX4_holding_21 : decode cX4_holding 21 = .ok (.iload_n 2, 1) := by decide +kernel
theorem dX4_holding_22 : decode cX4_holding 22 = .ok (.ifCond .ne 5, 3) := by decide +kernel
theorem dX4_holding_25 : decode cX4_holding 25 = .ok (.iload_n 3, 1) := by decide +kernel
theorem dX4_holding_26 : decode cX4_holding 26 = .ok (.ireturn, 1) := by decide +kernel
theorem dX4_holding_27 : decode cX4_holding 27 = .ok (.iinc 2 (-1), 3) := by decide +kernel
theorem dX4_holding_30 : decode cX4_holding 30 = .ok (.iinc 3 1, 3) := by decide +kernel
theorem dX4_holding_33 : decode cX4_holding 33 = .ok (.goto (-29), 3) := by decide +kernel
theorem dX4_holding_36 : decode cX4_holding 36 = .ok (.iconst (-1), 1) := by decide +kernel
theorem dX4_holding_37 : decode cX4_holding 37 = .ok (.ireturn, 1) := by decide +kernel
noncomputable def fX4_placeTank_51 (v1 : Int32) (v2 : Int32) (h : HS) : Option HS := ck (inb v2 15) (nm (pI h 32 v2.toNatClampNeg v1) (fun h11 => nm (pI h11 2 7 ((gI h11 2 7) + (1 : Int32))) (fun h13 => some h13)))
set_option maxRecDepth 100000 in
theorem jX4_placeTank_51 {h0 : HS} (v1 : Int32) (v2 : Int32) (h : HS) (H : fX4_placeTank_51 v1 v2 h = some h0) : Jx skC RX4 cX4_placeTank 3 none 0 none h0 51 [some (.ref 2), some (.int v1), some (.int v2)] [] h := by
  unfold fX4_placeTank_51 at H
  refine j_aload_n (pc := 51) dX4_placeTank_51 rfl ?_
  refine j_getR (pc := 52) (b := 32) dX4_placeTank_52 flX4_30 rfl ?_
  refine j_iload_n (pc := 55) dX4_placeTank_55 rfl ?_
  refine j_iload_n (pc := 56) dX4_placeTank_56 rfl ?_
  obtain ⟨b12, H⟩ := ck_x H
  obtain ⟨h11, eh11, H⟩ := nm_x H
  refine j_iastore (pc := 57) dX4_placeTank_57 rfl b12 rfl h11 eh11 ?_
  refine j_aload_n (pc := 58) dX4_placeTank_58 rfl ?_
  refine j_dup (pc := 59) dX4_placeTank_59 rfl ?_
  refine j_getI (pc := 60) dX4_placeTank_60 flX4_45 rfl ?_
  refine j_iconst (pc := 63) (v := 1) dX4_placeTank_63 (by decide) ?_
  refine j_iadd (pc := 64) dX4_placeTank_64 ?_
  obtain ⟨h13, eh13, H⟩ := nm_x H
  refine j_putI (pc := 65) dX4_placeTank_65 fpX4_45 rfl h13 eh13 ?_
  exact j_return (pc := 68) dX4_placeTank_68 rfl rfl (rv_2 H)
noncomputable def fX4_placeTank_5 : Nat → Int32 → Int32 → HS → Option HS
  | 0, _, _, _ => none
  | n + 1, v1, v2, h => if v2 ≤ 0 then (fX4_placeTank_51 v1 v2 h) else (ck (inb (v2 - (1 : Int32)) 15) (ck (inb (gI h 32 (v2 - (1 : Int32)).toNatClampNeg) 15) (ck (inb v1 15) (if (gI h 27 (gI h 32 (v2 - (1 : Int32)).toNatClampNeg).toNatClampNeg) ≤ (gI h 27 v1.toNatClampNeg) then (fX4_placeTank_51 v1 v2 h) else (ck (inb (v2 - (1 : Int32)) 15) (ck (inb v2 15) (nm (pI h 32 v2.toNatClampNeg (gI h 32 (v2 - (1 : Int32)).toNatClampNeg)) (fun h8 => nm (v2 + (-1 : Int32)) (fun v2_10 => fX4_placeTank_5 n v1 v2_10 h8)))))))))
set_option maxRecDepth 100000 in
theorem jX4_placeTank_5 {h0 : HS} : ∀ (n : Nat) (v1 : Int32) (v2 : Int32) (h : HS), fX4_placeTank_5 n v1 v2 h = some h0 → Jx skC RX4 cX4_placeTank 3 none 0 none h0 5 [some (.ref 2), some (.int v1), some (.int v2)] [] h := by
  intro n
  induction n with
  | zero => intro v1 v2  h H; cases H
  | succ n ih =>
    intro v1 v2  h H
    rw [fX4_placeTank_5] at H
    refine j_iload_n (pc := 5) dX4_placeTank_5 rfl ?_
    refine j_if_le (pc := 6) (tgt := 51) dX4_placeTank_6 (by decide) (fun c2 => ?_) (fun c2 => ?_)
    · rw [if_pos c2] at H
      refine Jx.sub (L' := [some (.ref 2), some (.int v1), some (.int v2)]) (⟨rfl, ⟨rfl, ⟨rfl, trivial⟩⟩⟩) ?_
      exact jX4_placeTank_51 v1 v2 h H
    · rw [if_neg c2] at H
      refine j_aload_n (pc := 9) dX4_placeTank_9 rfl ?_
      refine j_getR (pc := 10) (b := 27) dX4_placeTank_10 flX4_15 rfl ?_
      refine j_aload_n (pc := 13) dX4_placeTank_13 rfl ?_
      refine j_getR (pc := 14) (b := 32) dX4_placeTank_14 flX4_30 rfl ?_
      refine j_iload_n (pc := 17) dX4_placeTank_17 rfl ?_
      refine j_iconst (pc := 18) (v := 1) dX4_placeTank_18 (by decide) ?_
      refine j_isub (pc := 19) dX4_placeTank_19 ?_
      obtain ⟨b3, H⟩ := ck_x H
      refine j_iaload (pc := 20) dX4_placeTank_20 rfl b3 rfl ?_
      obtain ⟨b4, H⟩ := ck_x H
      refine j_iaload (pc := 21) dX4_placeTank_21 rfl b4 rfl ?_
      refine j_aload_n (pc := 22) dX4_placeTank_22 rfl ?_
      refine j_getR (pc := 23) (b := 27) dX4_placeTank_23 flX4_15 rfl ?_
      refine j_iload_n (pc := 26) dX4_placeTank_26 rfl ?_
      obtain ⟨b5, H⟩ := ck_x H
      refine j_iaload (pc := 27) dX4_placeTank_27 rfl b5 rfl ?_
      refine j_icmp_le (pc := 28) (tgt := 51) dX4_placeTank_28 (by decide) (fun c6 => ?_) (fun c6 => ?_)
      · rw [if_pos c6] at H
        refine Jx.sub (L' := [some (.ref 2), some (.int v1), some (.int v2)]) (⟨rfl, ⟨rfl, ⟨rfl, trivial⟩⟩⟩) ?_
        exact jX4_placeTank_51 v1 v2 h H
      · rw [if_neg c6] at H
        refine j_aload_n (pc := 31) dX4_placeTank_31 rfl ?_
        refine j_getR (pc := 32) (b := 32) dX4_placeTank_32 flX4_30 rfl ?_
        refine j_iload_n (pc := 35) dX4_placeTank_35 rfl ?_
        refine j_aload_n (pc := 36) dX4_placeTank_36 rfl ?_
        refine j_getR (pc := 37) (b := 32) dX4_placeTank_37 flX4_30 rfl ?_
        refine j_iload_n (pc := 40) dX4_placeTank_40 rfl ?_
        refine j_iconst (pc := 41) (v := 1) dX4_placeTank_41 (by decide) ?_
        refine j_isub (pc := 42) dX4_placeTank_42 ?_
        obtain ⟨b7, H⟩ := ck_x H
        refine j_iaload (pc := 43) dX4_placeTank_43 rfl b7 rfl ?_
        obtain ⟨b9, H⟩ := ck_x H
        obtain ⟨h8, eh8, H⟩ := nm_x H
        refine j_iastore (pc := 44) dX4_placeTank_44 rfl b9 rfl h8 eh8 ?_
        obtain ⟨v2_10, ev2_10, H⟩ := nm_x H
        refine j_iinc (pc := 45) (L' := [some (.ref 2), some (.int v1), some (.int v2_10)]) (w := -1) dX4_placeTank_45 rfl (by decide) (by decide) v2_10 ev2_10 rfl ?_
        refine j_goto (pc := 48) (tgt := 5) dX4_placeTank_48 (by decide) ?_
        refine Jx.sub (L' := [some (.ref 2), some (.int v1), some (.int v2_10)]) (⟨rfl, ⟨rfl, ⟨rfl, trivial⟩⟩⟩) ?_
        exact ih v1 v2_10 h8 H
noncomputable def fX4_placeTank (p1 : Int32) (h : HS) : Option HS := nm ((gI h 2 7)) (fun v2_1 => fX4_placeTank_5 FU p1 v2_1 h)
set_option maxRecDepth 100000 in
theorem tX4_placeTank {p1 : Int32} {h h0 : HS} (H : fX4_placeTank p1 h = some h0) : Cn skC yX4_placeTank cX4_placeTank 3 none 0 [.ref 2, .int p1] h none h0 := by
  refine Cn_of (L := [some (.ref 2), some (.int p1), none]) (by decide +kernel) (by simp [lg_sl, Value.category]) (fun ad => by simp [lg_sl, tv, Value.category]) (⟨rfl, ⟨rfl, trivial⟩⟩) ?_
  unfold fX4_placeTank at H
  refine j_aload_n (pc := 0) dX4_placeTank_0 rfl ?_
  refine j_getI (pc := 1) dX4_placeTank_1 flX4_45 rfl ?_
  obtain ⟨v2_1, ev2_1, H⟩ := nm_x H
  refine j_topi ev2_1 ?_
  refine j_istore_n (pc := 4) (L' := [some (.ref 2), some (.int p1), some (.int v2_1)]) dX4_placeTank_4 (by decide) rfl ?_
  refine Jx.sub (L' := [some (.ref 2), some (.int p1), some (.int v2_1)]) (⟨rfl, ⟨rfl, ⟨rfl, trivial⟩⟩⟩) ?_
  exact jX4_placeTank_5 FU p1 v2_1 h H

noncomputable def fX4_add_75 (h : HS) : Option (Int32 × HS) := nm (pI h 2 8 ((gI h 2 8) + (1 : Int32))) (fun h14 => some (((gI h14 2 8) - (1 : Int32)), h14))
set_option maxRecDepth 100000 in
theorem jX4_add_75 {r : Int32} {h0 : HS} (h : HS) (H : fX4_add_75 h = some (r, h0)) : Jx skC RX4 cX4_add 6 (some .int) 1 (some (.int r)) h0 75 [some (.ref 2), none, none, none, none, none] [] h := by
  unfold fX4_add_75 at H
  refine j_aload_n (pc := 75) dX4_add_75 rfl ?_
  refine j_dup (pc := 76) dX4_add_76 rfl ?_
  refine j_getI (pc := 77) dX4_add_77 flX4_33 rfl ?_
  refine j_iconst (pc := 80) (v := 1) dX4_add_80 (by decide) ?_
  refine j_iadd (pc := 81) dX4_add_81 ?_
  obtain ⟨h14, eh14, H⟩ := nm_x H
  refine j_putI (pc := 82) dX4_add_82 fpX4_33 rfl h14 eh14 ?_
  refine j_aload_n (pc := 85) dX4_add_85 rfl ?_
  refine j_getI (pc := 86) dX4_add_86 flX4_33 rfl ?_
  refine j_iconst (pc := 89) (v := 1) dX4_add_89 (by decide) ?_
  refine j_isub (pc := 90) dX4_add_90 ?_
  exact j_ireturn (pc := 91) dX4_add_91 rfl (ri_1 H) (ri_2 H)
noncomputable def fX4_add (p1 : Int32) (p2 : Int32) (p3 : Int32) (p4 : Int32) (p5 : Int32) (h : HS) : Option (Int32 × HS) := if (gI h 2 8) < (15 : Int32) then (ck (inb (gI h 2 8) 15) (nm (pI h 26 (gI h 2 8).toNatClampNeg p1) (fun h2 => ck (inb (gI h2 2 8) 15) (nm (pI h2 27 (gI h2 2 8).toNatClampNeg p2) (fun h4 => ck (inb (gI h4 2 8) 15) (nm (pI h4 28 (gI h4 2 8).toNatClampNeg p3) (fun h6 => ck (inb (gI h6 2 8) 15) (nm (pI h6 29 (gI h6 2 8).toNatClampNeg p4) (fun h8 => ck (inb (gI h8 2 8) 15) (nm (pI h8 30 (gI h8 2 8).toNatClampNeg p5) (fun h10 => if p1 = 0 then (bv (fX4_placeTank ((gI h10 2 8)) h10) (fun h13 => fX4_add_75 h13)) else (fX4_add_75 h10)))))))))))) else (some ((-1 : Int32), h))
set_option maxRecDepth 100000 in
theorem tX4_add {p1 : Int32} {p2 : Int32} {p3 : Int32} {p4 : Int32} {p5 : Int32} {r : Int32} {h h0 : HS} (H : fX4_add p1 p2 p3 p4 p5 h = some (r, h0)) : Cn skC yX4_add cX4_add 6 (some .int) 1 [.ref 2, .int p1, .int p2, .int p3, .int p4, .int p5] h (some (.int r)) h0 := by
  refine Cn_of (L := [some (.ref 2), some (.int p1), some (.int p2), some (.int p3), some (.int p4), some (.int p5)]) (by decide +kernel) (by simp [lg_sl, Value.category]) (fun ad => by simp [lg_sl, tv, Value.category]) (⟨rfl, ⟨rfl, ⟨rfl, ⟨rfl, ⟨rfl, ⟨rfl, trivial⟩⟩⟩⟩⟩⟩) ?_
  unfold fX4_add at H
  refine j_aload_n (pc := 0) dX4_add_0 rfl ?_
  refine j_getI (pc := 1) dX4_add_1 flX4_33 rfl ?_
  refine j_bipush (pc := 4) (v := 15) dX4_add_4 (by decide) ?_
  refine j_icmp_lt (pc := 6) (tgt := 11) dX4_add_6 (by decide) (fun c1 => ?_) (fun c1 => ?_)
  · rw [if_pos c1] at H
    refine j_aload_n (pc := 11) dX4_add_11 rfl ?_
    refine j_getR (pc := 12) (b := 26) dX4_add_12 flX4_9 rfl ?_
    refine j_aload_n (pc := 15) dX4_add_15 rfl ?_
    refine j_getI (pc := 16) dX4_add_16 flX4_33 rfl ?_
    refine j_iload_n (pc := 19) dX4_add_19 rfl ?_
    obtain ⟨b3, H⟩ := ck_x H
    obtain ⟨h2, eh2, H⟩ := nm_x H
    refine j_iastore (pc := 20) dX4_add_20 rfl b3 rfl h2 eh2 ?_
    refine j_aload_n (pc := 21) dX4_add_21 rfl ?_
    refine j_getR (pc := 22) (b := 27) dX4_add_22 flX4_15 rfl ?_
    refine j_aload_n (pc := 25) dX4_add_25 rfl ?_
    refine j_getI (pc := 26) dX4_add_26 flX4_33 rfl ?_
    refine j_iload_n (pc := 29) dX4_add_29 rfl ?_
    obtain ⟨b5, H⟩ := ck_x H
    obtain ⟨h4, eh4, H⟩ := nm_x H
    refine j_iastore (pc := 30) dX4_add_30 rfl b5 rfl h4 eh4 ?_
    refine j_aload_n (pc := 31) dX4_add_31 rfl ?_
    refine j_getR (pc := 32) (b := 28) dX4_add_32 flX4_18 rfl ?_
    refine j_aload_n (pc := 35) dX4_add_35 rfl ?_
    refine j_getI (pc := 36) dX4_add_36 flX4_33 rfl ?_
    refine j_iload_n (pc := 39) dX4_add_39 rfl ?_
    obtain ⟨b7, H⟩ := ck_x H
    obtain ⟨h6, eh6, H⟩ := nm_x H
    refine j_iastore (pc := 40) dX4_add_40 rfl b7 rfl h6 eh6 ?_
    refine j_aload_n (pc := 41) dX4_add_41 rfl ?_
    refine j_getR (pc := 42) (b := 29) dX4_add_42 flX4_21 rfl ?_
    refine j_aload_n (pc := 45) dX4_add_45 rfl ?_
    refine j_getI (pc := 46) dX4_add_46 flX4_33 rfl ?_
    refine j_iload (pc := 49) dX4_add_49 rfl ?_
    obtain ⟨b9, H⟩ := ck_x H
    obtain ⟨h8, eh8, H⟩ := nm_x H
    refine j_iastore (pc := 51) dX4_add_51 rfl b9 rfl h8 eh8 ?_
    refine j_aload_n (pc := 52) dX4_add_52 rfl ?_
    refine j_getR (pc := 53) (b := 30) dX4_add_53 flX4_24 rfl ?_
    refine j_aload_n (pc := 56) dX4_add_56 rfl ?_
    refine j_getI (pc := 57) dX4_add_57 flX4_33 rfl ?_
    refine j_iload (pc := 60) dX4_add_60 rfl ?_
    obtain ⟨b11, H⟩ := ck_x H
    obtain ⟨h10, eh10, H⟩ := nm_x H
    refine j_iastore (pc := 62) dX4_add_62 rfl b11 rfl h10 eh10 ?_
    refine j_iload_n (pc := 63) dX4_add_63 rfl ?_
    refine j_if_ne (pc := 64) (tgt := 75) dX4_add_64 (by decide) (fun c12 => ?_) (fun c12 => ?_)
    · rw [if_neg c12] at H
      refine Jx.sub (L' := [some (.ref 2), none, none, none, none, none]) (⟨rfl, trivial⟩) ?_
      exact jX4_add_75 h10 H
    · rw [if_pos c12] at H
      refine j_aload_n (pc := 67) dX4_add_67 rfl ?_
      refine j_aload_n (pc := 68) dX4_add_68 rfl ?_
      refine j_getI (pc := 69) dX4_add_69 flX4_33 rfl ?_
      obtain ⟨h13, eh13, H⟩ := bv_x H
      refine j_callV (pc := 72) dX4_add_72 mlX4_41 wyX4_placeTank (tX4_placeTank eh13) (by decide) rfl rfl rfl rfl (by simp [Value.category]) rfl ?_
      refine Jx.sub (L' := [some (.ref 2), none, none, none, none, none]) (⟨rfl, trivial⟩) ?_
      exact jX4_add_75 h13 H
  · rw [if_neg c1] at H
    refine j_iconst (pc := 9) (v := -1) dX4_add_9 (by decide) ?_
    exact j_ireturn (pc := 10) dX4_add_10 rfl (ri_1 H) (ri_2 H)

noncomputable def fX4_there (p1 : Int32) (h : HS) : Option (Int32 × HS) := if p1 < 0 then (some ((0 : Int32), h)) else (if (gI h 2 8) ≤ p1 then (some ((0 : Int32), h)) else (some ((1 : Int32), h)))
set_option maxRecDepth 100000 in
theorem tX4_there {p1 : Int32} {r : Int32} {h h0 : HS} (H : fX4_there p1 h = some (r, h0)) : Cn skC yX4_there cX4_there 2 (some .boolean) 0 [.ref 2, .int p1] h (some (.int r)) h0 := by
  refine Cn_of (L := [some (.ref 2), some (.int p1)]) (by decide +kernel) (by simp [lg_sl, Value.category]) (fun ad => by simp [lg_sl, tv, Value.category]) (⟨rfl, ⟨rfl, trivial⟩⟩) ?_
  unfold fX4_there at H
  refine j_iload_n (pc := 0) dX4_there_0 rfl ?_
  refine j_if_lt (pc := 1) (tgt := 16) dX4_there_1 (by decide) (fun c1 => ?_) (fun c1 => ?_)
  · rw [if_pos c1] at H
    refine j_iconst (pc := 16) (v := 0) dX4_there_16 (by decide) ?_
    exact j_zreturn (pc := 17) dX4_there_17 rfl (rz0 H) (ri_2 H)
  · rw [if_neg c1] at H
    refine j_iload_n (pc := 4) dX4_there_4 rfl ?_
    refine j_aload_n (pc := 5) dX4_there_5 rfl ?_
    refine j_getI (pc := 6) dX4_there_6 flX4_33 rfl ?_
    refine j_icmp_ge (pc := 9) (tgt := 16) dX4_there_9 (by decide) (fun c2 => ?_) (fun c2 => ?_)
    · rw [if_pos c2] at H
      refine j_iconst (pc := 16) (v := 0) dX4_there_16 (by decide) ?_
      exact j_zreturn (pc := 17) dX4_there_17 rfl (rz0 H) (ri_2 H)
    · rw [if_neg c2] at H
      refine j_iconst (pc := 12) (v := 1) dX4_there_12 (by decide) ?_
      refine j_goto (pc := 13) (tgt := 17) dX4_there_13 (by decide) ?_
      exact j_zreturn (pc := 17) dX4_there_17 rfl (rz1 H) (ri_2 H)

noncomputable def fX4_emptyTanks_2 : Nat → Int32 → HS → Option HS
  | 0, _, _ => none
  | n + 1, v1, h => if (gI h 2 7) ≤ v1 then (some h) else (ck (inb v1 15) (ck (inb (gI h 32 v1.toNatClampNeg) 15) (nm (pI h 30 (gI h 32 v1.toNatClampNeg).toNatClampNeg (0 : Int32)) (fun h3 => nm (v1 + (1 : Int32)) (fun v1_5 => fX4_emptyTanks_2 n v1_5 h3)))))
set_option maxRecDepth 100000 in
theorem jX4_emptyTanks_2 {h0 : HS} : ∀ (n : Nat) (v1 : Int32) (h : HS), fX4_emptyTanks_2 n v1 h = some h0 → Jx skC RX4 cX4_emptyTanks 2 none 0 none h0 2 [some (.ref 2), some (.int v1)] [] h := by
  intro n
  induction n with
  | zero => intro v1  h H; cases H
  | succ n ih =>
    intro v1  h H
    rw [fX4_emptyTanks_2] at H
    refine j_iload_n (pc := 2) dX4_emptyTanks_2 rfl ?_
    refine j_aload_n (pc := 3) dX4_emptyTanks_3 rfl ?_
    refine j_getI (pc := 4) dX4_emptyTanks_4 flX4_45 rfl ?_
    refine j_icmp_ge (pc := 7) (tgt := 28) dX4_emptyTanks_7 (by decide) (fun c1 => ?_) (fun c1 => ?_)
    · rw [if_pos c1] at H
      exact j_return (pc := 28) dX4_emptyTanks_28 rfl rfl (rv_2 H)
    · rw [if_neg c1] at H
      refine j_aload_n (pc := 10) dX4_emptyTanks_10 rfl ?_
      refine j_getR (pc := 11) (b := 30) dX4_emptyTanks_11 flX4_24 rfl ?_
      refine j_aload_n (pc := 14) dX4_emptyTanks_14 rfl ?_
      refine j_getR (pc := 15) (b := 32) dX4_emptyTanks_15 flX4_30 rfl ?_
      refine j_iload_n (pc := 18) dX4_emptyTanks_18 rfl ?_
      obtain ⟨b2, H⟩ := ck_x H
      refine j_iaload (pc := 19) dX4_emptyTanks_19 rfl b2 rfl ?_
      refine j_iconst (pc := 20) (v := 0) dX4_emptyTanks_20 (by decide) ?_
      obtain ⟨b4, H⟩ := ck_x H
      obtain ⟨h3, eh3, H⟩ := nm_x H
      refine j_iastore (pc := 21) dX4_emptyTanks_21 rfl b4 rfl h3 eh3 ?_
      obtain ⟨v1_5, ev1_5, H⟩ := nm_x H
      refine j_iinc (pc := 22) (L' := [some (.ref 2), some (.int v1_5)]) (w := 1) dX4_emptyTanks_22 rfl (by decide) (by decide) v1_5 ev1_5 rfl ?_
      refine j_goto (pc := 25) (tgt := 2) dX4_emptyTanks_25 (by decide) ?_
      refine Jx.sub (L' := [some (.ref 2), some (.int v1_5)]) (⟨rfl, ⟨rfl, trivial⟩⟩) ?_
      exact ih v1_5 h3 H
noncomputable def fX4_emptyTanks (h : HS) : Option HS := fX4_emptyTanks_2 FU (0 : Int32) h
set_option maxRecDepth 100000 in
theorem tX4_emptyTanks {h h0 : HS} (H : fX4_emptyTanks h = some h0) : Cn skC yX4_emptyTanks cX4_emptyTanks 2 none 0 [.ref 2] h none h0 := by
  refine Cn_of (L := [some (.ref 2), none]) (by decide +kernel) (by simp [lg_sl, Value.category]) (fun ad => by simp [lg_sl, tv, Value.category]) (⟨rfl, trivial⟩) ?_
  unfold fX4_emptyTanks at H
  refine j_iconst (pc := 0) (v := 0) dX4_emptyTanks_0 (by decide) ?_
  refine j_istore_n (pc := 1) (L' := [some (.ref 2), some (.int (0 : Int32))]) dX4_emptyTanks_1 (by decide) rfl ?_
  refine Jx.sub (L' := [some (.ref 2), some (.int (0 : Int32))]) (⟨rfl, ⟨rfl, trivial⟩⟩) ?_
  exact jX4_emptyTanks_2 FU (0 : Int32) h H

noncomputable def fX4_put (p1 : Int32) (p2 : Int32) (h : HS) : Option HS := bd (fX4_there p1 h) (fun r2 h1 => if r2 = 0 then (some h1) else (ck (inb p1 15) (bd (fX11_clamp p2 (0 : Int32) ((gI h1 29 p1.toNatClampNeg)) h1) (fun r6 h5 => ck (inb p1 15) (nm (pI h5 30 p1.toNatClampNeg r6) (fun h7 => some h7))))))
set_option maxRecDepth 100000 in
theorem tX4_put {p1 : Int32} {p2 : Int32} {h h0 : HS} (H : fX4_put p1 p2 h = some h0) : Cn skC yX4_put cX4_put 3 none 1 [.ref 2, .int p1, .int p2] h none h0 := by
  refine Cn_of (L := [some (.ref 2), some (.int p1), some (.int p2)]) (by decide +kernel) (by simp [lg_sl, Value.category]) (fun ad => by simp [lg_sl, tv, Value.category]) (⟨rfl, ⟨rfl, ⟨rfl, trivial⟩⟩⟩) ?_
  unfold fX4_put at H
  refine j_aload_n (pc := 0) dX4_put_0 rfl ?_
  refine j_iload_n (pc := 1) dX4_put_1 rfl ?_
  obtain ⟨r2, h1, eh1, H⟩ := bd_x H
  refine j_callV (pc := 2) dX4_put_2 mlX4_37 wyX4_there (tX4_there eh1) (by decide) rfl rfl rfl rfl (by simp [Value.category]) rfl ?_
  refine j_if_eq (pc := 5) (tgt := 25) dX4_put_5 (by decide) (fun c3 => ?_) (fun c3 => ?_)
  · rw [if_pos c3] at H
    exact j_return (pc := 25) dX4_put_25 rfl rfl (rv_2 H)
  · rw [if_neg c3] at H
    refine j_aload_n (pc := 8) dX4_put_8 rfl ?_
    refine j_getR (pc := 9) (b := 30) dX4_put_9 flX4_24 rfl ?_
    refine j_iload_n (pc := 12) dX4_put_12 rfl ?_
    refine j_iload_n (pc := 13) dX4_put_13 rfl ?_
    refine j_iconst (pc := 14) (v := 0) dX4_put_14 (by decide) ?_
    refine j_aload_n (pc := 15) dX4_put_15 rfl ?_
    refine j_getR (pc := 16) (b := 29) dX4_put_16 flX4_21 rfl ?_
    refine j_iload_n (pc := 19) dX4_put_19 rfl ?_
    obtain ⟨b4, H⟩ := ck_x H
    refine j_iaload (pc := 20) dX4_put_20 rfl b4 rfl ?_
    obtain ⟨r6, h5, eh5, H⟩ := bd_x H
    refine j_callSN (pc := 21) dX4_put_21 mlX4_48 wyX11_clamp (tX11_clamp eh5) (by decide) rfl (by simp [Value.category]) rfl ?_
    obtain ⟨b8, H⟩ := ck_x H
    obtain ⟨h7, eh7, H⟩ := nm_x H
    refine j_iastore (pc := 24) dX4_put_24 rfl b8 rfl h7 eh7 ?_
    exact j_return (pc := 25) dX4_put_25 rfl rfl (rv_2 H)

noncomputable def fX4_weight_4 : Nat → Int32 → Int32 → HS → Option (Int32 × HS)
  | 0, _, _, _ => none
  | n + 1, v1, v2, h => if (gI h 2 8) ≤ v2 then (some (v1, h)) else (ck (inb v2 15) (nm ((v1 + (gI h 30 v2.toNatClampNeg))) (fun v1_3 => nm (v2 + (1 : Int32)) (fun v2_4 => fX4_weight_4 n v1_3 v2_4 h))))
set_option maxRecDepth 100000 in
theorem jX4_weight_4 {r : Int32} {h0 : HS} : ∀ (n : Nat) (v1 : Int32) (v2 : Int32) (h : HS), fX4_weight_4 n v1 v2 h = some (r, h0) → Jx skC RX4 cX4_weight 3 (some .int) 0 (some (.int r)) h0 4 [some (.ref 2), some (.int v1), some (.int v2)] [] h := by
  intro n
  induction n with
  | zero => intro v1 v2  h H; cases H
  | succ n ih =>
    intro v1 v2  h H
    rw [fX4_weight_4] at H
    refine j_iload_n (pc := 4) dX4_weight_4 rfl ?_
    refine j_aload_n (pc := 5) dX4_weight_5 rfl ?_
    refine j_getI (pc := 6) dX4_weight_6 flX4_33 rfl ?_
    refine j_icmp_ge (pc := 9) (tgt := 27) dX4_weight_9 (by decide) (fun c1 => ?_) (fun c1 => ?_)
    · rw [if_pos c1] at H
      refine j_iload_n (pc := 27) dX4_weight_27 rfl ?_
      exact j_ireturn (pc := 28) dX4_weight_28 rfl (ri_1 H) (ri_2 H)
    · rw [if_neg c1] at H
      refine j_iload_n (pc := 12) dX4_weight_12 rfl ?_
      refine j_aload_n (pc := 13) dX4_weight_13 rfl ?_
      refine j_getR (pc := 14) (b := 30) dX4_weight_14 flX4_24 rfl ?_
      refine j_iload_n (pc := 17) dX4_weight_17 rfl ?_
      obtain ⟨b2, H⟩ := ck_x H
      refine j_iaload (pc := 18) dX4_weight_18 rfl b2 rfl ?_
      refine j_iadd (pc := 19) dX4_weight_19 ?_
      obtain ⟨v1_3, ev1_3, H⟩ := nm_x H
      refine j_topi ev1_3 ?_
      refine j_istore_n (pc := 20) (L' := [some (.ref 2), some (.int v1_3), some (.int v2)]) dX4_weight_20 (by decide) rfl ?_
      obtain ⟨v2_4, ev2_4, H⟩ := nm_x H
      refine j_iinc (pc := 21) (L' := [some (.ref 2), some (.int v1_3), some (.int v2_4)]) (w := 1) dX4_weight_21 rfl (by decide) (by decide) v2_4 ev2_4 rfl ?_
      refine j_goto (pc := 24) (tgt := 4) dX4_weight_24 (by decide) ?_
      refine Jx.sub (L' := [some (.ref 2), some (.int v1_3), some (.int v2_4)]) (⟨rfl, ⟨rfl, ⟨rfl, trivial⟩⟩⟩) ?_
      exact ih v1_3 v2_4 h H
noncomputable def fX4_weight (h : HS) : Option (Int32 × HS) := fX4_weight_4 FU (0 : Int32) (0 : Int32) h
set_option maxRecDepth 100000 in
theorem tX4_weight {r : Int32} {h h0 : HS} (H : fX4_weight h = some (r, h0)) : Cn skC yX4_weight cX4_weight 3 (some .int) 0 [.ref 2] h (some (.int r)) h0 := by
  refine Cn_of (L := [some (.ref 2), none, none]) (by decide +kernel) (by simp [lg_sl, Value.category]) (fun ad => by simp [lg_sl, tv, Value.category]) (⟨rfl, trivial⟩) ?_
  unfold fX4_weight at H
  refine j_iconst (pc := 0) (v := 0) dX4_weight_0 (by decide) ?_
  refine j_istore_n (pc := 1) (L' := [some (.ref 2), some (.int (0 : Int32)), none]) dX4_weight_1 (by decide) rfl ?_
  refine j_iconst (pc := 2) (v := 0) dX4_weight_2 (by decide) ?_
  refine j_istore_n (pc := 3) (L' := [some (.ref 2), some (.int (0 : Int32)), some (.int (0 : Int32))]) dX4_weight_3 (by decide) rfl ?_
  refine Jx.sub (L' := [some (.ref 2), some (.int (0 : Int32)), some (.int (0 : Int32))]) (⟨rfl, ⟨rfl, ⟨rfl, trivial⟩⟩⟩) ?_
  exact jX4_weight_4 FU (0 : Int32) (0 : Int32) h H

noncomputable def fX4_momentSum_4 : Nat → Int32 → Int32 → HS → Option (Int32 × HS)
  | 0, _, _, _ => none
  | n + 1, v1, v2, h => if (gI h 2 8) ≤ v2 then (some (v1, h)) else (ck (inb v2 15) (ck (inb v2 15) (nm ((v1 + ((gI h 27 v2.toNatClampNeg) * (gI h 30 v2.toNatClampNeg)))) (fun v1_4 => nm (v2 + (1 : Int32)) (fun v2_5 => fX4_momentSum_4 n v1_4 v2_5 h)))))
set_option maxRecDepth 100000 in
theorem jX4_momentSum_4 {r : Int32} {h0 : HS} : ∀ (n : Nat) (v1 : Int32) (v2 : Int32) (h : HS), fX4_momentSum_4 n v1 v2 h = some (r, h0) → Jx skC RX4 cX4_momentSum 3 (some .int) 0 (some (.int r)) h0 4 [some (.ref 2), some (.int v1), some (.int v2)] [] h := by
  intro n
  induction n with
  | zero => intro v1 v2  h H; cases H
  | succ n ih =>
    intro v1 v2  h H
    rw [fX4_momentSum_4] at H
    refine j_iload_n (pc := 4) dX4_momentSum_4 rfl ?_
    refine j_aload_n (pc := 5) dX4_momentSum_5 rfl ?_
    refine j_getI (pc := 6) dX4_momentSum_6 flX4_33 rfl ?_
    refine j_icmp_ge (pc := 9) (tgt := 34) dX4_momentSum_9 (by decide) (fun c1 => ?_) (fun c1 => ?_)
    · rw [if_pos c1] at H
      refine j_iload_n (pc := 34) dX4_momentSum_34 rfl ?_
      exact j_ireturn (pc := 35) dX4_momentSum_35 rfl (ri_1 H) (ri_2 H)
    · rw [if_neg c1] at H
      refine j_iload_n (pc := 12) dX4_momentSum_12 rfl ?_
      refine j_aload_n (pc := 13) dX4_momentSum_13 rfl ?_
      refine j_getR (pc := 14) (b := 27) dX4_momentSum_14 flX4_15 rfl ?_
      refine j_iload_n (pc := 17) dX4_momentSum_17 rfl ?_
      obtain ⟨b2, H⟩ := ck_x H
      refine j_iaload (pc := 18) dX4_momentSum_18 rfl b2 rfl ?_
      refine j_aload_n (pc := 19) dX4_momentSum_19 rfl ?_
      refine j_getR (pc := 20) (b := 30) dX4_momentSum_20 flX4_24 rfl ?_
      refine j_iload_n (pc := 23) dX4_momentSum_23 rfl ?_
      obtain ⟨b3, H⟩ := ck_x H
      refine j_iaload (pc := 24) dX4_momentSum_24 rfl b3 rfl ?_
      refine j_imul (pc := 25) dX4_momentSum_25 ?_
      refine j_iadd (pc := 26) dX4_momentSum_26 ?_
      obtain ⟨v1_4, ev1_4, H⟩ := nm_x H
      refine j_topi ev1_4 ?_
      refine j_istore_n (pc := 27) (L' := [some (.ref 2), some (.int v1_4), some (.int v2)]) dX4_momentSum_27 (by decide) rfl ?_
      obtain ⟨v2_5, ev2_5, H⟩ := nm_x H
      refine j_iinc (pc := 28) (L' := [some (.ref 2), some (.int v1_4), some (.int v2_5)]) (w := 1) dX4_momentSum_28 rfl (by decide) (by decide) v2_5 ev2_5 rfl ?_
      refine j_goto (pc := 31) (tgt := 4) dX4_momentSum_31 (by decide) ?_
      refine Jx.sub (L' := [some (.ref 2), some (.int v1_4), some (.int v2_5)]) (⟨rfl, ⟨rfl, ⟨rfl, trivial⟩⟩⟩) ?_
      exact ih v1_4 v2_5 h H
noncomputable def fX4_momentSum (h : HS) : Option (Int32 × HS) := fX4_momentSum_4 FU (0 : Int32) (0 : Int32) h
set_option maxRecDepth 100000 in
theorem tX4_momentSum {r : Int32} {h h0 : HS} (H : fX4_momentSum h = some (r, h0)) : Cn skC yX4_momentSum cX4_momentSum 3 (some .int) 0 [.ref 2] h (some (.int r)) h0 := by
  refine Cn_of (L := [some (.ref 2), none, none]) (by decide +kernel) (by simp [lg_sl, Value.category]) (fun ad => by simp [lg_sl, tv, Value.category]) (⟨rfl, trivial⟩) ?_
  unfold fX4_momentSum at H
  refine j_iconst (pc := 0) (v := 0) dX4_momentSum_0 (by decide) ?_
  refine j_istore_n (pc := 1) (L' := [some (.ref 2), some (.int (0 : Int32)), none]) dX4_momentSum_1 (by decide) rfl ?_
  refine j_iconst (pc := 2) (v := 0) dX4_momentSum_2 (by decide) ?_
  refine j_istore_n (pc := 3) (L' := [some (.ref 2), some (.int (0 : Int32)), some (.int (0 : Int32))]) dX4_momentSum_3 (by decide) rfl ?_
  refine Jx.sub (L' := [some (.ref 2), some (.int (0 : Int32)), some (.int (0 : Int32))]) (⟨rfl, ⟨rfl, ⟨rfl, trivial⟩⟩⟩) ?_
  exact jX4_momentSum_4 FU (0 : Int32) (0 : Int32) h H

noncomputable def fX4_listSum_4 : Nat → Int32 → Int32 → HS → Option (Int32 × HS)
  | 0, _, _, _ => none
  | n + 1, v1, v2, h => if (gI h 2 8) ≤ v2 then (some (v1, h)) else (ck (inb v2 15) (ck (inb v2 15) (nm ((v1 + ((gI h 28 v2.toNatClampNeg) * (gI h 30 v2.toNatClampNeg)))) (fun v1_4 => nm (v2 + (1 : Int32)) (fun v2_5 => fX4_listSum_4 n v1_4 v2_5 h)))))
set_option maxRecDepth 100000 in
theorem jX4_listSum_4 {r : Int32} {h0 : HS} : ∀ (n : Nat) (v1 : Int32) (v2 : Int32) (h : HS), fX4_listSum_4 n v1 v2 h = some (r, h0) → Jx skC RX4 cX4_listSum 3 (some .int) 0 (some (.int r)) h0 4 [some (.ref 2), some (.int v1), some (.int v2)] [] h := by
  intro n
  induction n with
  | zero => intro v1 v2  h H; cases H
  | succ n ih =>
    intro v1 v2  h H
    rw [fX4_listSum_4] at H
    refine j_iload_n (pc := 4) dX4_listSum_4 rfl ?_
    refine j_aload_n (pc := 5) dX4_listSum_5 rfl ?_
    refine j_getI (pc := 6) dX4_listSum_6 flX4_33 rfl ?_
    refine j_icmp_ge (pc := 9) (tgt := 34) dX4_listSum_9 (by decide) (fun c1 => ?_) (fun c1 => ?_)
    · rw [if_pos c1] at H
      refine j_iload_n (pc := 34) dX4_listSum_34 rfl ?_
      exact j_ireturn (pc := 35) dX4_listSum_35 rfl (ri_1 H) (ri_2 H)
    · rw [if_neg c1] at H
      refine j_iload_n (pc := 12) dX4_listSum_12 rfl ?_
      refine j_aload_n (pc := 13) dX4_listSum_13 rfl ?_
      refine j_getR (pc := 14) (b := 28) dX4_listSum_14 flX4_18 rfl ?_
      refine j_iload_n (pc := 17) dX4_listSum_17 rfl ?_
      obtain ⟨b2, H⟩ := ck_x H
      refine j_iaload (pc := 18) dX4_listSum_18 rfl b2 rfl ?_
      refine j_aload_n (pc := 19) dX4_listSum_19 rfl ?_
      refine j_getR (pc := 20) (b := 30) dX4_listSum_20 flX4_24 rfl ?_
      refine j_iload_n (pc := 23) dX4_listSum_23 rfl ?_
      obtain ⟨b3, H⟩ := ck_x H
      refine j_iaload (pc := 24) dX4_listSum_24 rfl b3 rfl ?_
      refine j_imul (pc := 25) dX4_listSum_25 ?_
      refine j_iadd (pc := 26) dX4_listSum_26 ?_
      obtain ⟨v1_4, ev1_4, H⟩ := nm_x H
      refine j_topi ev1_4 ?_
      refine j_istore_n (pc := 27) (L' := [some (.ref 2), some (.int v1_4), some (.int v2)]) dX4_listSum_27 (by decide) rfl ?_
      obtain ⟨v2_5, ev2_5, H⟩ := nm_x H
      refine j_iinc (pc := 28) (L' := [some (.ref 2), some (.int v1_4), some (.int v2_5)]) (w := 1) dX4_listSum_28 rfl (by decide) (by decide) v2_5 ev2_5 rfl ?_
      refine j_goto (pc := 31) (tgt := 4) dX4_listSum_31 (by decide) ?_
      refine Jx.sub (L' := [some (.ref 2), some (.int v1_4), some (.int v2_5)]) (⟨rfl, ⟨rfl, ⟨rfl, trivial⟩⟩⟩) ?_
      exact ih v1_4 v2_5 h H
noncomputable def fX4_listSum (h : HS) : Option (Int32 × HS) := fX4_listSum_4 FU (0 : Int32) (0 : Int32) h
set_option maxRecDepth 100000 in
theorem tX4_listSum {r : Int32} {h h0 : HS} (H : fX4_listSum h = some (r, h0)) : Cn skC yX4_listSum cX4_listSum 3 (some .int) 0 [.ref 2] h (some (.int r)) h0 := by
  refine Cn_of (L := [some (.ref 2), none, none]) (by decide +kernel) (by simp [lg_sl, Value.category]) (fun ad => by simp [lg_sl, tv, Value.category]) (⟨rfl, trivial⟩) ?_
  unfold fX4_listSum at H
  refine j_iconst (pc := 0) (v := 0) dX4_listSum_0 (by decide) ?_
  refine j_istore_n (pc := 1) (L' := [some (.ref 2), some (.int (0 : Int32)), none]) dX4_listSum_1 (by decide) rfl ?_
  refine j_iconst (pc := 2) (v := 0) dX4_listSum_2 (by decide) ?_
  refine j_istore_n (pc := 3) (L' := [some (.ref 2), some (.int (0 : Int32)), some (.int (0 : Int32))]) dX4_listSum_3 (by decide) rfl ?_
  refine Jx.sub (L' := [some (.ref 2), some (.int (0 : Int32)), some (.int (0 : Int32))]) (⟨rfl, ⟨rfl, ⟨rfl, trivial⟩⟩⟩) ?_
  exact jX4_listSum_4 FU (0 : Int32) (0 : Int32) h H

noncomputable def fX4_isA (p1 : Int32) (p2 : Int32) (h : HS) : Option (Int32 × HS) := bd (fX4_there p1 h) (fun r2 h1 => if r2 = 0 then (some ((0 : Int32), h1)) else (ck (inb p1 15) (if (gI h1 26 p1.toNatClampNeg) = p2 then (some ((1 : Int32), h1)) else (some ((0 : Int32), h1)))))
set_option maxRecDepth 100000 in
theorem tX4_isA {p1 : Int32} {p2 : Int32} {r : Int32} {h h0 : HS} (H : fX4_isA p1 p2 h = some (r, h0)) : Cn skC yX4_isA cX4_isA 3 (some .boolean) 1 [.ref 2, .int p1, .int p2] h (some (.int r)) h0 := by
  refine Cn_of (L := [some (.ref 2), some (.int p1), some (.int p2)]) (by decide +kernel) (by simp [lg_sl, Value.category]) (fun ad => by simp [lg_sl, tv, Value.category]) (⟨rfl, ⟨rfl, ⟨rfl, trivial⟩⟩⟩) ?_
  unfold fX4_isA at H
  refine j_aload_n (pc := 0) dX4_isA_0 rfl ?_
  refine j_iload_n (pc := 1) dX4_isA_1 rfl ?_
  obtain ⟨r2, h1, eh1, H⟩ := bd_x H
  refine j_callV (pc := 2) dX4_isA_2 mlX4_37 wyX4_there (tX4_there eh1) (by decide) rfl rfl rfl rfl (by simp [Value.category]) rfl ?_
  refine j_if_eq (pc := 5) (tgt := 22) dX4_isA_5 (by decide) (fun c3 => ?_) (fun c3 => ?_)
  · rw [if_pos c3] at H
    refine j_iconst (pc := 22) (v := 0) dX4_isA_22 (by decide) ?_
    exact j_zreturn (pc := 23) dX4_isA_23 rfl (rz0 H) (ri_2 H)
  · rw [if_neg c3] at H
    refine j_aload_n (pc := 8) dX4_isA_8 rfl ?_
    refine j_getR (pc := 9) (b := 26) dX4_isA_9 flX4_9 rfl ?_
    refine j_iload_n (pc := 12) dX4_isA_12 rfl ?_
    obtain ⟨b4, H⟩ := ck_x H
    refine j_iaload (pc := 13) dX4_isA_13 rfl b4 rfl ?_
    refine j_iload_n (pc := 14) dX4_isA_14 rfl ?_
    refine j_icmp_ne (pc := 15) (tgt := 22) dX4_isA_15 (by decide) (fun c5 => ?_) (fun c5 => ?_)
    · rw [if_neg c5] at H
      refine j_iconst (pc := 22) (v := 0) dX4_isA_22 (by decide) ?_
      exact j_zreturn (pc := 23) dX4_isA_23 rfl (rz0 H) (ri_2 H)
    · rw [if_pos c5] at H
      refine j_iconst (pc := 18) (v := 1) dX4_isA_18 (by decide) ?_
      refine j_goto (pc := 19) (tgt := 23) dX4_isA_19 (by decide) ?_
      exact j_zreturn (pc := 23) dX4_isA_23 rfl (rz1 H) (ri_2 H)

noncomputable def fX4_save (h : HS) : Option HS := ck (cpok (0 : Int32) (0 : Int32) (15 : Int32) 15 15) (nm (cpI h 30 31 (0 : Int32).toNatClampNeg (0 : Int32).toNatClampNeg (15 : Int32).toNatClampNeg) (fun h2 => some h2))
set_option maxRecDepth 100000 in
theorem tX4_save {h h0 : HS} (H : fX4_save h = some h0) : Cn skC yX4_save cX4_save 1 none 0 [.ref 2] h none h0 := by
  refine Cn_of (L := [some (.ref 2)]) (by decide +kernel) (by simp [lg_sl, Value.category]) (fun ad => by simp [lg_sl, tv, Value.category]) (⟨rfl, trivial⟩) ?_
  unfold fX4_save at H
  refine j_aload_n (pc := 0) dX4_save_0 rfl ?_
  refine j_getR (pc := 1) (b := 30) dX4_save_1 flX4_24 rfl ?_
  refine j_iconst (pc := 4) (v := 0) dX4_save_4 (by decide) ?_
  refine j_aload_n (pc := 5) dX4_save_5 rfl ?_
  refine j_getR (pc := 6) (b := 31) dX4_save_6 flX4_27 rfl ?_
  refine j_iconst (pc := 9) (v := 0) dX4_save_9 (by decide) ?_
  refine j_bipush (pc := 10) (v := 15) dX4_save_10 (by decide) ?_
  obtain ⟨b1, H⟩ := ck_x H
  obtain ⟨h2, eh2, H⟩ := nm_x H
  refine j_copyB (pc := 12) dX4_save_12 wcX4_62 rfl rfl b1 (by decide) h2 eh2 ?_
  exact j_return (pc := 15) dX4_save_15 rfl rfl (rv_2 H)

noncomputable def fX4_give (p1 : Int32) (p2 : Int32) (h : HS) : Option HS := bd (fX4_there p1 h) (fun r2 h1 => if r2 = 0 then (some h1) else (ck (inb p1 15) (ck (inb p1 15) (ck (inb p1 15) (nm (pI h1 30 p1.toNatClampNeg (imin (gI h1 29 p1.toNatClampNeg) ((gI h1 30 p1.toNatClampNeg) + p2))) (fun h6 => some h6))))))
set_option maxRecDepth 100000 in
theorem tX4_give {p1 : Int32} {p2 : Int32} {h h0 : HS} (H : fX4_give p1 p2 h = some h0) : Cn skC yX4_give cX4_give 3 none 1 [.ref 2, .int p1, .int p2] h none h0 := by
  refine Cn_of (L := [some (.ref 2), some (.int p1), some (.int p2)]) (by decide +kernel) (by simp [lg_sl, Value.category]) (fun ad => by simp [lg_sl, tv, Value.category]) (⟨rfl, ⟨rfl, ⟨rfl, trivial⟩⟩⟩) ?_
  unfold fX4_give at H
  refine j_aload_n (pc := 0) dX4_give_0 rfl ?_
  refine j_iload_n (pc := 1) dX4_give_1 rfl ?_
  obtain ⟨r2, h1, eh1, H⟩ := bd_x H
  refine j_callV (pc := 2) dX4_give_2 mlX4_37 wyX4_there (tX4_there eh1) (by decide) rfl rfl rfl rfl (by simp [Value.category]) rfl ?_
  refine j_if_eq (pc := 5) (tgt := 31) dX4_give_5 (by decide) (fun c3 => ?_) (fun c3 => ?_)
  · rw [if_pos c3] at H
    exact j_return (pc := 31) dX4_give_31 rfl rfl (rv_2 H)
  · rw [if_neg c3] at H
    refine j_aload_n (pc := 8) dX4_give_8 rfl ?_
    refine j_getR (pc := 9) (b := 30) dX4_give_9 flX4_24 rfl ?_
    refine j_iload_n (pc := 12) dX4_give_12 rfl ?_
    refine j_aload_n (pc := 13) dX4_give_13 rfl ?_
    refine j_getR (pc := 14) (b := 29) dX4_give_14 flX4_21 rfl ?_
    refine j_iload_n (pc := 17) dX4_give_17 rfl ?_
    obtain ⟨b4, H⟩ := ck_x H
    refine j_iaload (pc := 18) dX4_give_18 rfl b4 rfl ?_
    refine j_aload_n (pc := 19) dX4_give_19 rfl ?_
    refine j_getR (pc := 20) (b := 30) dX4_give_20 flX4_24 rfl ?_
    refine j_iload_n (pc := 23) dX4_give_23 rfl ?_
    obtain ⟨b5, H⟩ := ck_x H
    refine j_iaload (pc := 24) dX4_give_24 rfl b5 rfl ?_
    refine j_iload_n (pc := 25) dX4_give_25 rfl ?_
    refine j_iadd (pc := 26) dX4_give_26 ?_
    refine j_mmin (pc := 27) dX4_give_27 wmX4_52 (by simp [Value.category]) ?_
    obtain ⟨b7, H⟩ := ck_x H
    obtain ⟨h6, eh6, H⟩ := nm_x H
    refine j_iastore (pc := 30) dX4_give_30 rfl b7 rfl h6 eh6 ?_
    exact j_return (pc := 31) dX4_give_31 rfl rfl (rv_2 H)

noncomputable def fX4_restore (h : HS) : Option HS := ck (cpok (0 : Int32) (0 : Int32) (15 : Int32) 15 15) (nm (cpI h 31 30 (0 : Int32).toNatClampNeg (0 : Int32).toNatClampNeg (15 : Int32).toNatClampNeg) (fun h2 => some h2))
set_option maxRecDepth 100000 in
theorem tX4_restore {h h0 : HS} (H : fX4_restore h = some h0) : Cn skC yX4_restore cX4_restore 1 none 0 [.ref 2] h none h0 := by
  refine Cn_of (L := [some (.ref 2)]) (by decide +kernel) (by simp [lg_sl, Value.category]) (fun ad => by simp [lg_sl, tv, Value.category]) (⟨rfl, trivial⟩) ?_
  unfold fX4_restore at H
  refine j_aload_n (pc := 0) dX4_restore_0 rfl ?_
  refine j_getR (pc := 1) (b := 31) dX4_restore_1 flX4_27 rfl ?_
  refine j_iconst (pc := 4) (v := 0) dX4_restore_4 (by decide) ?_
  refine j_aload_n (pc := 5) dX4_restore_5 rfl ?_
  refine j_getR (pc := 6) (b := 30) dX4_restore_6 flX4_24 rfl ?_
  refine j_iconst (pc := 9) (v := 0) dX4_restore_9 (by decide) ?_
  refine j_bipush (pc := 10) (v := 15) dX4_restore_10 (by decide) ?_
  obtain ⟨b1, H⟩ := ck_x H
  obtain ⟨h2, eh2, H⟩ := nm_x H
  refine j_copyB (pc := 12) dX4_restore_12 wcX4_62 rfl rfl b1 (by decide) h2 eh2 ?_
  exact j_return (pc := 15) dX4_restore_15 rfl rfl (rv_2 H)

noncomputable def fX4_room (p1 : Int32) (h : HS) : Option (Int32 × HS) := bd (fX4_there p1 h) (fun r2 h1 => if r2 = 0 then (some ((0 : Int32), h1)) else (ck (inb p1 15) (ck (inb p1 15) (some (((gI h1 29 p1.toNatClampNeg) - (gI h1 30 p1.toNatClampNeg)), h1)))))
set_option maxRecDepth 100000 in
theorem tX4_room {p1 : Int32} {r : Int32} {h h0 : HS} (H : fX4_room p1 h = some (r, h0)) : Cn skC yX4_room cX4_room 2 (some .int) 1 [.ref 2, .int p1] h (some (.int r)) h0 := by
  refine Cn_of (L := [some (.ref 2), some (.int p1)]) (by decide +kernel) (by simp [lg_sl, Value.category]) (fun ad => by simp [lg_sl, tv, Value.category]) (⟨rfl, ⟨rfl, trivial⟩⟩) ?_
  unfold fX4_room at H
  refine j_aload_n (pc := 0) dX4_room_0 rfl ?_
  refine j_iload_n (pc := 1) dX4_room_1 rfl ?_
  obtain ⟨r2, h1, eh1, H⟩ := bd_x H
  refine j_callV (pc := 2) dX4_room_2 mlX4_37 wyX4_there (tX4_there eh1) (by decide) rfl rfl rfl rfl (by simp [Value.category]) rfl ?_
  refine j_if_eq (pc := 5) (tgt := 24) dX4_room_5 (by decide) (fun c3 => ?_) (fun c3 => ?_)
  · rw [if_pos c3] at H
    refine j_iconst (pc := 24) (v := 0) dX4_room_24 (by decide) ?_
    exact j_ireturn (pc := 25) dX4_room_25 rfl (ri_1 H) (ri_2 H)
  · rw [if_neg c3] at H
    refine j_aload_n (pc := 8) dX4_room_8 rfl ?_
    refine j_getR (pc := 9) (b := 29) dX4_room_9 flX4_21 rfl ?_
    refine j_iload_n (pc := 12) dX4_room_12 rfl ?_
    obtain ⟨b4, H⟩ := ck_x H
    refine j_iaload (pc := 13) dX4_room_13 rfl b4 rfl ?_
    refine j_aload_n (pc := 14) dX4_room_14 rfl ?_
    refine j_getR (pc := 15) (b := 30) dX4_room_15 flX4_24 rfl ?_
    refine j_iload_n (pc := 18) dX4_room_18 rfl ?_
    obtain ⟨b5, H⟩ := ck_x H
    refine j_iaload (pc := 19) dX4_room_19 rfl b5 rfl ?_
    refine j_isub (pc := 20) dX4_room_20 ?_
    refine j_goto (pc := 21) (tgt := 25) dX4_room_21 (by decide) ?_
    exact j_ireturn (pc := 25) dX4_room_25 rfl (ri_1 H) (ri_2 H)

noncomputable def fX4_tanksHold_4 : Nat → Int32 → Int32 → HS → Option (Int32 × HS)
  | 0, _, _, _ => none
  | n + 1, v1, v2, h => if (gI h 2 7) ≤ v2 then (some (v1, h)) else (ck (inb v2 15) (ck (inb (gI h 32 v2.toNatClampNeg) 15) (nm ((v1 + (gI h 30 (gI h 32 v2.toNatClampNeg).toNatClampNeg))) (fun v1_4 => nm (v2 + (1 : Int32)) (fun v2_5 => fX4_tanksHold_4 n v1_4 v2_5 h)))))
set_option maxRecDepth 100000 in
theorem jX4_tanksHold_4 {r : Int32} {h0 : HS} : ∀ (n : Nat) (v1 : Int32) (v2 : Int32) (h : HS), fX4_tanksHold_4 n v1 v2 h = some (r, h0) → Jx skC RX4 cX4_tanksHold 3 (some .int) 0 (some (.int r)) h0 4 [some (.ref 2), some (.int v1), some (.int v2)] [] h := by
  intro n
  induction n with
  | zero => intro v1 v2  h H; cases H
  | succ n ih =>
    intro v1 v2  h H
    rw [fX4_tanksHold_4] at H
    refine j_iload_n (pc := 4) dX4_tanksHold_4 rfl ?_
    refine j_aload_n (pc := 5) dX4_tanksHold_5 rfl ?_
    refine j_getI (pc := 6) dX4_tanksHold_6 flX4_45 rfl ?_
    refine j_icmp_ge (pc := 9) (tgt := 32) dX4_tanksHold_9 (by decide) (fun c1 => ?_) (fun c1 => ?_)
    · rw [if_pos c1] at H
      refine j_iload_n (pc := 32) dX4_tanksHold_32 rfl ?_
      exact j_ireturn (pc := 33) dX4_tanksHold_33 rfl (ri_1 H) (ri_2 H)
    · rw [if_neg c1] at H
      refine j_iload_n (pc := 12) dX4_tanksHold_12 rfl ?_
      refine j_aload_n (pc := 13) dX4_tanksHold_13 rfl ?_
      refine j_getR (pc := 14) (b := 30) dX4_tanksHold_14 flX4_24 rfl ?_
      refine j_aload_n (pc := 17) dX4_tanksHold_17 rfl ?_
      refine j_getR (pc := 18) (b := 32) dX4_tanksHold_18 flX4_30 rfl ?_
      refine j_iload_n (pc := 21) dX4_tanksHold_21 rfl ?_
      obtain ⟨b2, H⟩ := ck_x H
      refine j_iaload (pc := 22) dX4_tanksHold_22 rfl b2 rfl ?_
      obtain ⟨b3, H⟩ := ck_x H
      refine j_iaload (pc := 23) dX4_tanksHold_23 rfl b3 rfl ?_
      refine j_iadd (pc := 24) dX4_tanksHold_24 ?_
      obtain ⟨v1_4, ev1_4, H⟩ := nm_x H
      refine j_topi ev1_4 ?_
      refine j_istore_n (pc := 25) (L' := [some (.ref 2), some (.int v1_4), some (.int v2)]) dX4_tanksHold_25 (by decide) rfl ?_
      obtain ⟨v2_5, ev2_5, H⟩ := nm_x H
      refine j_iinc (pc := 26) (L' := [some (.ref 2), some (.int v1_4), some (.int v2_5)]) (w := 1) dX4_tanksHold_26 rfl (by decide) (by decide) v2_5 ev2_5 rfl ?_
      refine j_goto (pc := 29) (tgt := 4) dX4_tanksHold_29 (by decide) ?_
      refine Jx.sub (L' := [some (.ref 2), some (.int v1_4), some (.int v2_5)]) (⟨rfl, ⟨rfl, ⟨rfl, trivial⟩⟩⟩) ?_
      exact ih v1_4 v2_5 h H
noncomputable def fX4_tanksHold (h : HS) : Option (Int32 × HS) := fX4_tanksHold_4 FU (0 : Int32) (0 : Int32) h
set_option maxRecDepth 100000 in
theorem tX4_tanksHold {r : Int32} {h h0 : HS} (H : fX4_tanksHold h = some (r, h0)) : Cn skC yX4_tanksHold cX4_tanksHold 3 (some .int) 0 [.ref 2] h (some (.int r)) h0 := by
  refine Cn_of (L := [some (.ref 2), none, none]) (by decide +kernel) (by simp [lg_sl, Value.category]) (fun ad => by simp [lg_sl, tv, Value.category]) (⟨rfl, trivial⟩) ?_
  unfold fX4_tanksHold at H
  refine j_iconst (pc := 0) (v := 0) dX4_tanksHold_0 (by decide) ?_
  refine j_istore_n (pc := 1) (L' := [some (.ref 2), some (.int (0 : Int32)), none]) dX4_tanksHold_1 (by decide) rfl ?_
  refine j_iconst (pc := 2) (v := 0) dX4_tanksHold_2 (by decide) ?_
  refine j_istore_n (pc := 3) (L' := [some (.ref 2), some (.int (0 : Int32)), some (.int (0 : Int32))]) dX4_tanksHold_3 (by decide) rfl ?_
  refine Jx.sub (L' := [some (.ref 2), some (.int (0 : Int32)), some (.int (0 : Int32))]) (⟨rfl, ⟨rfl, ⟨rfl, trivial⟩⟩⟩) ?_
  exact jX4_tanksHold_4 FU (0 : Int32) (0 : Int32) h H

noncomputable def fX4_tanksMoment_4 : Nat → Int32 → Int32 → HS → Option (Int32 × HS)
  | 0, _, _, _ => none
  | n + 1, v1, v2, h => if (gI h 2 7) ≤ v2 then (some (v1, h)) else (ck (inb v2 15) (ck (inb (gI h 32 v2.toNatClampNeg) 15) (ck (inb v2 15) (ck (inb (gI h 32 v2.toNatClampNeg) 15) (nm ((v1 + ((gI h 27 (gI h 32 v2.toNatClampNeg).toNatClampNeg) * (gI h 30 (gI h 32 v2.toNatClampNeg).toNatClampNeg)))) (fun v1_6 => nm (v2 + (1 : Int32)) (fun v2_7 => fX4_tanksMoment_4 n v1_6 v2_7 h)))))))
set_option maxRecDepth 100000 in
theorem jX4_tanksMoment_4 {r : Int32} {h0 : HS} : ∀ (n : Nat) (v1 : Int32) (v2 : Int32) (h : HS), fX4_tanksMoment_4 n v1 v2 h = some (r, h0) → Jx skC RX4 cX4_tanksMoment 3 (some .int) 0 (some (.int r)) h0 4 [some (.ref 2), some (.int v1), some (.int v2)] [] h := by
  intro n
  induction n with
  | zero => intro v1 v2  h H; cases H
  | succ n ih =>
    intro v1 v2  h H
    rw [fX4_tanksMoment_4] at H
    refine j_iload_n (pc := 4) dX4_tanksMoment_4 rfl ?_
    refine j_aload_n (pc := 5) dX4_tanksMoment_5 rfl ?_
    refine j_getI (pc := 6) dX4_tanksMoment_6 flX4_45 rfl ?_
    refine j_icmp_ge (pc := 9) (tgt := 44) dX4_tanksMoment_9 (by decide) (fun c1 => ?_) (fun c1 => ?_)
    · rw [if_pos c1] at H
      refine j_iload_n (pc := 44) dX4_tanksMoment_44 rfl ?_
      exact j_ireturn (pc := 45) dX4_tanksMoment_45 rfl (ri_1 H) (ri_2 H)
    · rw [if_neg c1] at H
      refine j_iload_n (pc := 12) dX4_tanksMoment_12 rfl ?_
      refine j_aload_n (pc := 13) dX4_tanksMoment_13 rfl ?_
      refine j_getR (pc := 14) (b := 27) dX4_tanksMoment_14 flX4_15 rfl ?_
      refine j_aload_n (pc := 17) dX4_tanksMoment_17 rfl ?_
      refine j_getR (pc := 18) (b := 32) dX4_tanksMoment_18 flX4_30 rfl ?_
      refine j_iload_n (pc := 21) dX4_tanksMoment_21 rfl ?_
      obtain ⟨b2, H⟩ := ck_x H
      refine j_iaload (pc := 22) dX4_tanksMoment_22 rfl b2 rfl ?_
      obtain ⟨b3, H⟩ := ck_x H
      refine j_iaload (pc := 23) dX4_tanksMoment_23 rfl b3 rfl ?_
      refine j_aload_n (pc := 24) dX4_tanksMoment_24 rfl ?_
      refine j_getR (pc := 25) (b := 30) dX4_tanksMoment_25 flX4_24 rfl ?_
      refine j_aload_n (pc := 28) dX4_tanksMoment_28 rfl ?_
      refine j_getR (pc := 29) (b := 32) dX4_tanksMoment_29 flX4_30 rfl ?_
      refine j_iload_n (pc := 32) dX4_tanksMoment_32 rfl ?_
      obtain ⟨b4, H⟩ := ck_x H
      refine j_iaload (pc := 33) dX4_tanksMoment_33 rfl b4 rfl ?_
      obtain ⟨b5, H⟩ := ck_x H
      refine j_iaload (pc := 34) dX4_tanksMoment_34 rfl b5 rfl ?_
      refine j_imul (pc := 35) dX4_tanksMoment_35 ?_
      refine j_iadd (pc := 36) dX4_tanksMoment_36 ?_
      obtain ⟨v1_6, ev1_6, H⟩ := nm_x H
      refine j_topi ev1_6 ?_
      refine j_istore_n (pc := 37) (L' := [some (.ref 2), some (.int v1_6), some (.int v2)]) dX4_tanksMoment_37 (by decide) rfl ?_
      obtain ⟨v2_7, ev2_7, H⟩ := nm_x H
      refine j_iinc (pc := 38) (L' := [some (.ref 2), some (.int v1_6), some (.int v2_7)]) (w := 1) dX4_tanksMoment_38 rfl (by decide) (by decide) v2_7 ev2_7 rfl ?_
      refine j_goto (pc := 41) (tgt := 4) dX4_tanksMoment_41 (by decide) ?_
      refine Jx.sub (L' := [some (.ref 2), some (.int v1_6), some (.int v2_7)]) (⟨rfl, ⟨rfl, ⟨rfl, trivial⟩⟩⟩) ?_
      exact ih v1_6 v2_7 h H
noncomputable def fX4_tanksMoment (h : HS) : Option (Int32 × HS) := fX4_tanksMoment_4 FU (0 : Int32) (0 : Int32) h
set_option maxRecDepth 100000 in
theorem tX4_tanksMoment {r : Int32} {h h0 : HS} (H : fX4_tanksMoment h = some (r, h0)) : Cn skC yX4_tanksMoment cX4_tanksMoment 3 (some .int) 0 [.ref 2] h (some (.int r)) h0 := by
  refine Cn_of (L := [some (.ref 2), none, none]) (by decide +kernel) (by simp [lg_sl, Value.category]) (fun ad => by simp [lg_sl, tv, Value.category]) (⟨rfl, trivial⟩) ?_
  unfold fX4_tanksMoment at H
  refine j_iconst (pc := 0) (v := 0) dX4_tanksMoment_0 (by decide) ?_
  refine j_istore_n (pc := 1) (L' := [some (.ref 2), some (.int (0 : Int32)), none]) dX4_tanksMoment_1 (by decide) rfl ?_
  refine j_iconst (pc := 2) (v := 0) dX4_tanksMoment_2 (by decide) ?_
  refine j_istore_n (pc := 3) (L' := [some (.ref 2), some (.int (0 : Int32)), some (.int (0 : Int32))]) dX4_tanksMoment_3 (by decide) rfl ?_
  refine Jx.sub (L' := [some (.ref 2), some (.int (0 : Int32)), some (.int (0 : Int32))]) (⟨rfl, ⟨rfl, ⟨rfl, trivial⟩⟩⟩) ?_
  exact jX4_tanksMoment_4 FU (0 : Int32) (0 : Int32) h H

noncomputable def fX4_fullestTank_59 (k9 : Int32 → Int32 → HS → Option (Int32 × HS)) (v2 : Int32) (v3 : Int32) (h : HS) : Option (Int32 × HS) := nm (v2 + (1 : Int32)) (fun v2_14 => k9 v3 v2_14 h)
set_option maxRecDepth 100000 in
theorem jX4_fullestTank_59 {r : Int32} {h0 : HS} (k9 : Int32 → Int32 → HS → Option (Int32 × HS)) (hk9 : ∀ (v1 : Int32) (v2 : Int32) (h : HS), k9 v1 v2 h = some (r, h0) → Jx skC RX4 cX4_fullestTank 4 (some .int) 0 (some (.int r)) h0 9 [some (.ref 2), some (.int v1), some (.int v2), none] [] h) (v2 : Int32) (v3 : Int32) (h : HS) (H : fX4_fullestTank_59 k9 v2 v3 h = some (r, h0)) : Jx skC RX4 cX4_fullestTank 4 (some .int) 0 (some (.int r)) h0 59 [some (.ref 2), none, some (.int v2), some (.int v3)] [] h := by
  unfold fX4_fullestTank_59 at H
  refine j_iload_n (pc := 59) dX4_fullestTank_59 rfl ?_
  refine j_istore_n (pc := 60) (L' := [some (.ref 2), some (.int v3), some (.int v2), some (.int v3)]) dX4_fullestTank_60 (by decide) rfl ?_
  obtain ⟨v2_14, ev2_14, H⟩ := nm_x H
  refine j_iinc (pc := 61) (L' := [some (.ref 2), some (.int v3), some (.int v2_14), some (.int v3)]) (w := 1) dX4_fullestTank_61 rfl (by decide) (by decide) v2_14 ev2_14 rfl ?_
  refine j_goto (pc := 64) (tgt := 9) dX4_fullestTank_64 (by decide) ?_
  refine Jx.sub (L' := [some (.ref 2), some (.int v3), some (.int v2_14), none]) (⟨rfl, ⟨rfl, ⟨rfl, trivial⟩⟩⟩) ?_
  exact hk9 v3 v2_14 h H
noncomputable def fX4_fullestTank_9 : Nat → Int32 → Int32 → HS → Option (Int32 × HS)
  | 0, _, _, _ => none
  | n + 1, v1, v2, h => if (gI h 2 7) ≤ v2 then (some (v1, h)) else (ck (inb v2 15) (nm ((gI h 32 v2.toNatClampNeg)) (fun v3_4 => ck (inb v3_4 15) (ck (inb v1 15) (if (gI h 30 v1.toNatClampNeg) < (gI h 30 v3_4.toNatClampNeg) then (fX4_fullestTank_59 (fX4_fullestTank_9 n) v2 v3_4 h) else (ck (inb v3_4 15) (ck (inb v1 15) (if (gI h 30 v3_4.toNatClampNeg) = (gI h 30 v1.toNatClampNeg) then (if v1 ≤ v3_4 then (nm (v2 + (1 : Int32)) (fun v2_13 => fX4_fullestTank_9 n v1 v2_13 h)) else (fX4_fullestTank_59 (fX4_fullestTank_9 n) v2 v3_4 h)) else (nm (v2 + (1 : Int32)) (fun v2_11 => fX4_fullestTank_9 n v1 v2_11 h))))))))))
set_option maxRecDepth 100000 in
theorem jX4_fullestTank_9 {r : Int32} {h0 : HS} : ∀ (n : Nat) (v1 : Int32) (v2 : Int32) (h : HS), fX4_fullestTank_9 n v1 v2 h = some (r, h0) → Jx skC RX4 cX4_fullestTank 4 (some .int) 0 (some (.int r)) h0 9 [some (.ref 2), some (.int v1), some (.int v2), none] [] h := by
  intro n
  induction n with
  | zero => intro v1 v2  h H; cases H
  | succ n ih =>
    intro v1 v2  h H
    rw [fX4_fullestTank_9] at H
    refine j_iload_n (pc := 9) dX4_fullestTank_9 rfl ?_
    refine j_aload_n (pc := 10) dX4_fullestTank_10 rfl ?_
    refine j_getI (pc := 11) dX4_fullestTank_11 flX4_45 rfl ?_
    refine j_icmp_ge (pc := 14) (tgt := 67) dX4_fullestTank_14 (by decide) (fun c2 => ?_) (fun c2 => ?_)
    · rw [if_pos c2] at H
      refine j_iload_n (pc := 67) dX4_fullestTank_67 rfl ?_
      exact j_ireturn (pc := 68) dX4_fullestTank_68 rfl (ri_1 H) (ri_2 H)
    · rw [if_neg c2] at H
      refine j_aload_n (pc := 17) dX4_fullestTank_17 rfl ?_
      refine j_getR (pc := 18) (b := 32) dX4_fullestTank_18 flX4_30 rfl ?_
      refine j_iload_n (pc := 21) dX4_fullestTank_21 rfl ?_
      obtain ⟨b3, H⟩ := ck_x H
      refine j_iaload (pc := 22) dX4_fullestTank_22 rfl b3 rfl ?_
      obtain ⟨v3_4, ev3_4, H⟩ := nm_x H
      refine j_topi ev3_4 ?_
      refine j_istore_n (pc := 23) (L' := [some (.ref 2), some (.int v1), some (.int v2), some (.int v3_4)]) dX4_fullestTank_23 (by decide) rfl ?_
      refine j_aload_n (pc := 24) dX4_fullestTank_24 rfl ?_
      refine j_getR (pc := 25) (b := 30) dX4_fullestTank_25 flX4_24 rfl ?_
      refine j_iload_n (pc := 28) dX4_fullestTank_28 rfl ?_
      obtain ⟨b5, H⟩ := ck_x H
      refine j_iaload (pc := 29) dX4_fullestTank_29 rfl b5 rfl ?_
      refine j_aload_n (pc := 30) dX4_fullestTank_30 rfl ?_
      refine j_getR (pc := 31) (b := 30) dX4_fullestTank_31 flX4_24 rfl ?_
      refine j_iload_n (pc := 34) dX4_fullestTank_34 rfl ?_
      obtain ⟨b6, H⟩ := ck_x H
      refine j_iaload (pc := 35) dX4_fullestTank_35 rfl b6 rfl ?_
      refine j_icmp_gt (pc := 36) (tgt := 59) dX4_fullestTank_36 (by decide) (fun c7 => ?_) (fun c7 => ?_)
      · rw [if_pos c7] at H
        refine Jx.sub (L' := [some (.ref 2), none, some (.int v2), some (.int v3_4)]) (⟨rfl, ⟨rfl, ⟨rfl, trivial⟩⟩⟩) ?_
        exact jX4_fullestTank_59 _ ih v2 v3_4 h H
      · rw [if_neg c7] at H
        refine j_aload_n (pc := 39) dX4_fullestTank_39 rfl ?_
        refine j_getR (pc := 40) (b := 30) dX4_fullestTank_40 flX4_24 rfl ?_
        refine j_iload_n (pc := 43) dX4_fullestTank_43 rfl ?_
        obtain ⟨b8, H⟩ := ck_x H
        refine j_iaload (pc := 44) dX4_fullestTank_44 rfl b8 rfl ?_
        refine j_aload_n (pc := 45) dX4_fullestTank_45 rfl ?_
        refine j_getR (pc := 46) (b := 30) dX4_fullestTank_46 flX4_24 rfl ?_
        refine j_iload_n (pc := 49) dX4_fullestTank_49 rfl ?_
        obtain ⟨b9, H⟩ := ck_x H
        refine j_iaload (pc := 50) dX4_fullestTank_50 rfl b9 rfl ?_
        refine j_icmp_ne (pc := 51) (tgt := 61) dX4_fullestTank_51 (by decide) (fun c10 => ?_) (fun c10 => ?_)
        · rw [if_neg c10] at H
          obtain ⟨v2_11, ev2_11, H⟩ := nm_x H
          refine j_iinc (pc := 61) (L' := [some (.ref 2), some (.int v1), some (.int v2_11), some (.int v3_4)]) (w := 1) dX4_fullestTank_61 rfl (by decide) (by decide) v2_11 ev2_11 rfl ?_
          refine j_goto (pc := 64) (tgt := 9) dX4_fullestTank_64 (by decide) ?_
          refine Jx.sub (L' := [some (.ref 2), some (.int v1), some (.int v2_11), none]) (⟨rfl, ⟨rfl, ⟨rfl, trivial⟩⟩⟩) ?_
          exact ih v1 v2_11 h H
        · rw [if_pos c10] at H
          refine j_iload_n (pc := 54) dX4_fullestTank_54 rfl ?_
          refine j_iload_n (pc := 55) dX4_fullestTank_55 rfl ?_
          refine j_icmp_ge (pc := 56) (tgt := 61) dX4_fullestTank_56 (by decide) (fun c12 => ?_) (fun c12 => ?_)
          · rw [if_pos c12] at H
            obtain ⟨v2_13, ev2_13, H⟩ := nm_x H
            refine j_iinc (pc := 61) (L' := [some (.ref 2), some (.int v1), some (.int v2_13), some (.int v3_4)]) (w := 1) dX4_fullestTank_61 rfl (by decide) (by decide) v2_13 ev2_13 rfl ?_
            refine j_goto (pc := 64) (tgt := 9) dX4_fullestTank_64 (by decide) ?_
            refine Jx.sub (L' := [some (.ref 2), some (.int v1), some (.int v2_13), none]) (⟨rfl, ⟨rfl, ⟨rfl, trivial⟩⟩⟩) ?_
            exact ih v1 v2_13 h H
          · rw [if_neg c12] at H
            refine Jx.sub (L' := [some (.ref 2), none, some (.int v2), some (.int v3_4)]) (⟨rfl, ⟨rfl, ⟨rfl, trivial⟩⟩⟩) ?_
            exact jX4_fullestTank_59 _ ih v2 v3_4 h H
noncomputable def fX4_fullestTank (h : HS) : Option (Int32 × HS) := nm ((gI h 32 0)) (fun v1_1 => fX4_fullestTank_9 FU v1_1 (1 : Int32) h)
set_option maxRecDepth 100000 in
theorem tX4_fullestTank {r : Int32} {h h0 : HS} (H : fX4_fullestTank h = some (r, h0)) : Cn skC yX4_fullestTank cX4_fullestTank 4 (some .int) 0 [.ref 2] h (some (.int r)) h0 := by
  refine Cn_of (L := [some (.ref 2), none, none, none]) (by decide +kernel) (by simp [lg_sl, Value.category]) (fun ad => by simp [lg_sl, tv, Value.category]) (⟨rfl, trivial⟩) ?_
  unfold fX4_fullestTank at H
  refine j_aload_n (pc := 0) dX4_fullestTank_0 rfl ?_
  refine j_getR (pc := 1) (b := 32) dX4_fullestTank_1 flX4_30 rfl ?_
  refine j_iconst (pc := 4) (v := 0) dX4_fullestTank_4 (by decide) ?_
  refine j_iaload (pc := 5) (j := 0) dX4_fullestTank_5 rfl (by decide) (by decide) ?_
  obtain ⟨v1_1, ev1_1, H⟩ := nm_x H
  refine j_topi ev1_1 ?_
  refine j_istore_n (pc := 6) (L' := [some (.ref 2), some (.int v1_1), none, none]) dX4_fullestTank_6 (by decide) rfl ?_
  refine j_iconst (pc := 7) (v := 1) dX4_fullestTank_7 (by decide) ?_
  refine j_istore_n (pc := 8) (L' := [some (.ref 2), some (.int v1_1), some (.int (1 : Int32)), none]) dX4_fullestTank_8 (by decide) rfl ?_
  refine Jx.sub (L' := [some (.ref 2), some (.int v1_1), some (.int (1 : Int32)), none]) (⟨rfl, ⟨rfl, ⟨rfl, trivial⟩⟩⟩) ?_
  exact jX4_fullestTank_9 FU v1_1 (1 : Int32) h H

noncomputable def fX4_emptyFullestFirst_4 : Nat → Int32 → Int32 → HS → Option HS
  | 0, _, _, _ => none
  | n + 1, v2, v3, h => if (gI h 2 7) ≤ v3 then (some h) else (if v2 ≤ 0 then (some h) else (bd (fX4_fullestTank h) (fun r4 h3 => ck (inb r4 15) (nm ((imin v2 (gI h3 30 r4.toNatClampNeg))) (fun v5_6 => ck (inb r4 15) (ck (inb r4 15) (nm (pI h3 30 r4.toNatClampNeg ((gI h3 30 r4.toNatClampNeg) - v5_6)) (fun h8 => nm ((v2 - v5_6)) (fun v2_10 => nm (v3 + (1 : Int32)) (fun v3_11 => fX4_emptyFullestFirst_4 n v2_10 v3_11 h8))))))))))
set_option maxRecDepth 100000 in
theorem jX4_emptyFullestFirst_4 {h0 : HS} : ∀ (n : Nat) (v2 : Int32) (v3 : Int32) (h : HS), fX4_emptyFullestFirst_4 n v2 v3 h = some h0 → Jx skC RX4 cX4_emptyFullestFirst 6 none 1 none h0 4 [some (.ref 2), none, some (.int v2), some (.int v3), none, none] [] h := by
  intro n
  induction n with
  | zero => intro v2 v3  h H; cases H
  | succ n ih =>
    intro v2 v3  h H
    rw [fX4_emptyFullestFirst_4] at H
    refine j_iload_n (pc := 4) dX4_emptyFullestFirst_4 rfl ?_
    refine j_aload_n (pc := 5) dX4_emptyFullestFirst_5 rfl ?_
    refine j_getI (pc := 6) dX4_emptyFullestFirst_6 flX4_45 rfl ?_
    refine j_icmp_ge (pc := 9) (tgt := 58) dX4_emptyFullestFirst_9 (by decide) (fun c1 => ?_) (fun c1 => ?_)
    · rw [if_pos c1] at H
      exact j_return (pc := 58) dX4_emptyFullestFirst_58 rfl rfl (rv_2 H)
    · rw [if_neg c1] at H
      refine j_iload_n (pc := 12) dX4_emptyFullestFirst_12 rfl ?_
      refine j_if_le (pc := 13) (tgt := 58) dX4_emptyFullestFirst_13 (by decide) (fun c2 => ?_) (fun c2 => ?_)
      · rw [if_pos c2] at H
        exact j_return (pc := 58) dX4_emptyFullestFirst_58 rfl rfl (rv_2 H)
      · rw [if_neg c2] at H
        refine j_aload_n (pc := 16) dX4_emptyFullestFirst_16 rfl ?_
        obtain ⟨r4, h3, eh3, H⟩ := bd_x H
        refine j_callV (pc := 17) dX4_emptyFullestFirst_17 mlX4_58 wyX4_fullestTank (tX4_fullestTank eh3) (by decide) rfl rfl rfl rfl (by simp [Value.category]) rfl ?_
        refine j_istore (pc := 20) (L' := [some (.ref 2), none, some (.int v2), some (.int v3), some (.int r4), none]) dX4_emptyFullestFirst_20 (by decide) rfl ?_
        refine j_iload_n (pc := 22) dX4_emptyFullestFirst_22 rfl ?_
        refine j_aload_n (pc := 23) dX4_emptyFullestFirst_23 rfl ?_
        refine j_getR (pc := 24) (b := 30) dX4_emptyFullestFirst_24 flX4_24 rfl ?_
        refine j_iload (pc := 27) dX4_emptyFullestFirst_27 rfl ?_
        obtain ⟨b5, H⟩ := ck_x H
        refine j_iaload (pc := 29) dX4_emptyFullestFirst_29 rfl b5 rfl ?_
        refine j_mmin (pc := 30) dX4_emptyFullestFirst_30 wmX4_52 (by simp [Value.category]) ?_
        obtain ⟨v5_6, ev5_6, H⟩ := nm_x H
        refine j_topi ev5_6 ?_
        refine j_istore (pc := 33) (L' := [some (.ref 2), none, some (.int v2), some (.int v3), some (.int r4), some (.int v5_6)]) dX4_emptyFullestFirst_33 (by decide) rfl ?_
        refine j_aload_n (pc := 35) dX4_emptyFullestFirst_35 rfl ?_
        refine j_getR (pc := 36) (b := 30) dX4_emptyFullestFirst_36 flX4_24 rfl ?_
        refine j_iload (pc := 39) dX4_emptyFullestFirst_39 rfl ?_
        refine j_dup2 (pc := 41) dX4_emptyFullestFirst_41 rfl rfl ?_
        obtain ⟨b7, H⟩ := ck_x H
        refine j_iaload (pc := 42) dX4_emptyFullestFirst_42 rfl b7 rfl ?_
        refine j_iload (pc := 43) dX4_emptyFullestFirst_43 rfl ?_
        refine j_isub (pc := 45) dX4_emptyFullestFirst_45 ?_
        obtain ⟨b9, H⟩ := ck_x H
        obtain ⟨h8, eh8, H⟩ := nm_x H
        refine j_iastore (pc := 46) dX4_emptyFullestFirst_46 rfl b9 rfl h8 eh8 ?_
        refine j_iload_n (pc := 47) dX4_emptyFullestFirst_47 rfl ?_
        refine j_iload (pc := 48) dX4_emptyFullestFirst_48 rfl ?_
        refine j_isub (pc := 50) dX4_emptyFullestFirst_50 ?_
        obtain ⟨v2_10, ev2_10, H⟩ := nm_x H
        refine j_topi ev2_10 ?_
        refine j_istore_n (pc := 51) (L' := [some (.ref 2), none, some (.int v2_10), some (.int v3), some (.int r4), some (.int v5_6)]) dX4_emptyFullestFirst_51 (by decide) rfl ?_
        obtain ⟨v3_11, ev3_11, H⟩ := nm_x H
        refine j_iinc (pc := 52) (L' := [some (.ref 2), none, some (.int v2_10), some (.int v3_11), some (.int r4), some (.int v5_6)]) (w := 1) dX4_emptyFullestFirst_52 rfl (by decide) (by decide) v3_11 ev3_11 rfl ?_
        refine j_goto (pc := 55) (tgt := 4) dX4_emptyFullestFirst_55 (by decide) ?_
        refine Jx.sub (L' := [some (.ref 2), none, some (.int v2_10), some (.int v3_11), none, none]) (⟨rfl, ⟨rfl, ⟨rfl, trivial⟩⟩⟩) ?_
        exact ih v2_10 v3_11 h8 H
noncomputable def fX4_emptyFullestFirst (p1 : Int32) (h : HS) : Option HS := fX4_emptyFullestFirst_4 FU p1 (0 : Int32) h
set_option maxRecDepth 100000 in
theorem tX4_emptyFullestFirst {p1 : Int32} {h h0 : HS} (H : fX4_emptyFullestFirst p1 h = some h0) : Cn skC yX4_emptyFullestFirst cX4_emptyFullestFirst 6 none 1 [.ref 2, .int p1] h none h0 := by
  refine Cn_of (L := [some (.ref 2), some (.int p1), none, none, none, none]) (by decide +kernel) (by simp [lg_sl, Value.category]) (fun ad => by simp [lg_sl, tv, Value.category]) (⟨rfl, ⟨rfl, trivial⟩⟩) ?_
  unfold fX4_emptyFullestFirst at H
  refine j_iload_n (pc := 0) dX4_emptyFullestFirst_0 rfl ?_
  refine j_istore_n (pc := 1) (L' := [some (.ref 2), some (.int p1), some (.int p1), none, none, none]) dX4_emptyFullestFirst_1 (by decide) rfl ?_
  refine j_iconst (pc := 2) (v := 0) dX4_emptyFullestFirst_2 (by decide) ?_
  refine j_istore_n (pc := 3) (L' := [some (.ref 2), some (.int p1), some (.int p1), some (.int (0 : Int32)), none, none]) dX4_emptyFullestFirst_3 (by decide) rfl ?_
  refine Jx.sub (L' := [some (.ref 2), none, some (.int p1), some (.int (0 : Int32)), none, none]) (⟨rfl, ⟨rfl, ⟨rfl, trivial⟩⟩⟩) ?_
  exact jX4_emptyFullestFirst_4 FU p1 (0 : Int32) h H

noncomputable def fX4_thatHold_27 (k4 : Int32 → Int32 → HS → Option (Int32 × HS)) (v2 : Int32) (s1 : Int32) (s0 : Int32) (h : HS) : Option (Int32 × HS) := nm ((s0 + s1)) (fun v1_4 => nm (v2 + (1 : Int32)) (fun v2_5 => k4 v1_4 v2_5 h))
set_option maxRecDepth 100000 in
theorem jX4_thatHold_27 {r : Int32} {h0 : HS} (k4 : Int32 → Int32 → HS → Option (Int32 × HS)) (hk4 : ∀ (v1 : Int32) (v2 : Int32) (h : HS), k4 v1 v2 h = some (r, h0) → Jx skC RX4 cX4_thatHold 3 (some .int) 0 (some (.int r)) h0 4 [some (.ref 2), some (.int v1), some (.int v2)] [] h) (v2 : Int32) (s1 : Int32) (s0 : Int32) (h : HS) (H : fX4_thatHold_27 k4 v2 s1 s0 h = some (r, h0)) : Jx skC RX4 cX4_thatHold 3 (some .int) 0 (some (.int r)) h0 27 [some (.ref 2), none, some (.int v2)] [.int s1, .int s0] h := by
  unfold fX4_thatHold_27 at H
  refine j_iadd (pc := 27) dX4_thatHold_27 ?_
  obtain ⟨v1_4, ev1_4, H⟩ := nm_x H
  refine j_topi ev1_4 ?_
  refine j_istore_n (pc := 28) (L' := [some (.ref 2), some (.int v1_4), some (.int v2)]) dX4_thatHold_28 (by decide) rfl ?_
  obtain ⟨v2_5, ev2_5, H⟩ := nm_x H
  refine j_iinc (pc := 29) (L' := [some (.ref 2), some (.int v1_4), some (.int v2_5)]) (w := 1) dX4_thatHold_29 rfl (by decide) (by decide) v2_5 ev2_5 rfl ?_
  refine j_goto (pc := 32) (tgt := 4) dX4_thatHold_32 (by decide) ?_
  refine Jx.sub (L' := [some (.ref 2), some (.int v1_4), some (.int v2_5)]) (⟨rfl, ⟨rfl, ⟨rfl, trivial⟩⟩⟩) ?_
  exact hk4 v1_4 v2_5 h H
noncomputable def fX4_thatHold_4 : Nat → Int32 → Int32 → HS → Option (Int32 × HS)
  | 0, _, _, _ => none
  | n + 1, v1, v2, h => if (gI h 2 8) ≤ v2 then (some (v1, h)) else (ck (inb v2 15) (if (gI h 29 v2.toNatClampNeg) ≤ 0 then (fX4_thatHold_27 (fX4_thatHold_4 n) v2 (0 : Int32) v1 h) else (fX4_thatHold_27 (fX4_thatHold_4 n) v2 (1 : Int32) v1 h)))
set_option maxRecDepth 100000 in
theorem jX4_thatHold_4 {r : Int32} {h0 : HS} : ∀ (n : Nat) (v1 : Int32) (v2 : Int32) (h : HS), fX4_thatHold_4 n v1 v2 h = some (r, h0) → Jx skC RX4 cX4_thatHold 3 (some .int) 0 (some (.int r)) h0 4 [some (.ref 2), some (.int v1), some (.int v2)] [] h := by
  intro n
  induction n with
  | zero => intro v1 v2  h H; cases H
  | succ n ih =>
    intro v1 v2  h H
    rw [fX4_thatHold_4] at H
    refine j_iload_n (pc := 4) dX4_thatHold_4 rfl ?_
    refine j_aload_n (pc := 5) dX4_thatHold_5 rfl ?_
    refine j_getI (pc := 6) dX4_thatHold_6 flX4_33 rfl ?_
    refine j_icmp_ge (pc := 9) (tgt := 35) dX4_thatHold_9 (by decide) (fun c1 => ?_) (fun c1 => ?_)
    · rw [if_pos c1] at H
      refine j_iload_n (pc := 35) dX4_thatHold_35 rfl ?_
      exact j_ireturn (pc := 36) dX4_thatHold_36 rfl (ri_1 H) (ri_2 H)
    · rw [if_neg c1] at H
      refine j_iload_n (pc := 12) dX4_thatHold_12 rfl ?_
      refine j_aload_n (pc := 13) dX4_thatHold_13 rfl ?_
      refine j_getR (pc := 14) (b := 29) dX4_thatHold_14 flX4_21 rfl ?_
      refine j_iload_n (pc := 17) dX4_thatHold_17 rfl ?_
      obtain ⟨b2, H⟩ := ck_x H
      refine j_iaload (pc := 18) dX4_thatHold_18 rfl b2 rfl ?_
      refine j_if_le (pc := 19) (tgt := 26) dX4_thatHold_19 (by decide) (fun c3 => ?_) (fun c3 => ?_)
      · rw [if_pos c3] at H
        refine j_iconst (pc := 26) (v := 0) dX4_thatHold_26 (by decide) ?_
        refine Jx.sub (L' := [some (.ref 2), none, some (.int v2)]) (⟨rfl, ⟨rfl, trivial⟩⟩) ?_
        exact jX4_thatHold_27 _ ih v2 (0 : Int32) v1 h H
      · rw [if_neg c3] at H
        refine j_iconst (pc := 22) (v := 1) dX4_thatHold_22 (by decide) ?_
        refine j_goto (pc := 23) (tgt := 27) dX4_thatHold_23 (by decide) ?_
        refine Jx.sub (L' := [some (.ref 2), none, some (.int v2)]) (⟨rfl, ⟨rfl, trivial⟩⟩) ?_
        exact jX4_thatHold_27 _ ih v2 (1 : Int32) v1 h H
noncomputable def fX4_thatHold (h : HS) : Option (Int32 × HS) := fX4_thatHold_4 FU (0 : Int32) (0 : Int32) h
set_option maxRecDepth 100000 in
theorem tX4_thatHold {r : Int32} {h h0 : HS} (H : fX4_thatHold h = some (r, h0)) : Cn skC yX4_thatHold cX4_thatHold 3 (some .int) 0 [.ref 2] h (some (.int r)) h0 := by
  refine Cn_of (L := [some (.ref 2), none, none]) (by decide +kernel) (by simp [lg_sl, Value.category]) (fun ad => by simp [lg_sl, tv, Value.category]) (⟨rfl, trivial⟩) ?_
  unfold fX4_thatHold at H
  refine j_iconst (pc := 0) (v := 0) dX4_thatHold_0 (by decide) ?_
  refine j_istore_n (pc := 1) (L' := [some (.ref 2), some (.int (0 : Int32)), none]) dX4_thatHold_1 (by decide) rfl ?_
  refine j_iconst (pc := 2) (v := 0) dX4_thatHold_2 (by decide) ?_
  refine j_istore_n (pc := 3) (L' := [some (.ref 2), some (.int (0 : Int32)), some (.int (0 : Int32))]) dX4_thatHold_3 (by decide) rfl ?_
  refine Jx.sub (L' := [some (.ref 2), some (.int (0 : Int32)), some (.int (0 : Int32))]) (⟨rfl, ⟨rfl, ⟨rfl, trivial⟩⟩⟩) ?_
  exact jX4_thatHold_4 FU (0 : Int32) (0 : Int32) h H

noncomputable def fX4_holding_4 : Nat → Int32 → Int32 → HS → Option (Int32 × HS)
  | 0, _, _, _ => none
  | n + 1, v2, v3, h => if (gI h 2 8) ≤ v3 then (some ((-1 : Int32), h)) else (ck (inb v3 15) (if (gI h 29 v3.toNatClampNeg) ≤ 0 then (nm (v3 + (1 : Int32)) (fun v3_4 => fX4_holding_4 n v2 v3_4 h)) else (if v2 = 0 then (some (v3, h)) else (nm (v2 + (-1 : Int32)) (fun v2_6 => nm (v3 + (1 : Int32)) (fun v3_7 => fX4_holding_4 n v2_6 v3_7 h))))))
set_option maxRecDepth 100000 in
theorem jX4_holding_4 {r : Int32} {h0 : HS} : ∀ (n : Nat) (v2 : Int32) (v3 : Int32) (h : HS), fX4_holding_4 n v2 v3 h = some (r, h0) → Jx skC RX4 cX4_holding 4 (some .int) 0 (some (.int r)) h0 4 [some (.ref 2), none, some (.int v2), some (.int v3)] [] h := by
  intro n
  induction n with
  | zero => intro v2 v3  h H; cases H
  | succ n ih =>
    intro v2 v3  h H
    rw [fX4_holding_4] at H
    refine j_iload_n (pc := 4) dX4_holding_4 rfl ?_
    refine j_aload_n (pc := 5) dX4_holding_5 rfl ?_
    refine j_getI (pc := 6) dX4_holding_6 flX4_33 rfl ?_
    refine j_icmp_ge (pc := 9) (tgt := 36) dX4_holding_9 (by decide) (fun c1 => ?_) (fun c1 => ?_)
    · rw [if_pos c1] at H
      refine j_iconst (pc := 36) (v := -1) dX4_holding_36 (by decide) ?_
      exact j_ireturn (pc := 37) dX4_holding_37 rfl (ri_1 H) (ri_2 H)
    · rw [if_neg c1] at H
      refine j_aload_n (pc := 12) dX4_holding_12 rfl ?_
      refine j_getR (pc := 13) (b := 29) dX4_holding_13 flX4_21 rfl ?_
      refine j_iload_n (pc := 16) dX4_holding_16 rfl ?_
      obtain ⟨b2, H⟩ := ck_x H
      refine j_iaload (pc := 17) dX4_holding_17 rfl b2 rfl ?_
      refine j_if_le (pc := 18) (tgt := 30) dX4_holding_18 (by decide) (fun c3 => ?_) (fun c3 => ?_)
      · rw [if_pos c3] at H
        obtain ⟨v3_4, ev3_4, H⟩ := nm_x H
        refine j_iinc (pc := 30) (L' := [some (.ref 2), none, some (.int v2), some (.int v3_4)]) (w := 1) dX4_holding_30 rfl (by decide) (by decide) v3_4 ev3_4 rfl ?_
        refine j_goto (pc := 33) (tgt := 4) dX4_holding_33 (by decide) ?_
        refine Jx.sub (L' := [some (.ref 2), none, some (.int v2), some (.int v3_4)]) (⟨rfl, ⟨rfl, ⟨rfl, trivial⟩⟩⟩) ?_
        exact ih v2 v3_4 h H
      · rw [if_neg c3] at H
        refine j_iload_n (pc := 21) dX4_holding_21 rfl ?_
        refine j_if_ne (pc := 22) (tgt := 27) dX4_holding_22 (by decide) (fun c5 => ?_) (fun c5 => ?_)
        · rw [if_neg c5] at H
          obtain ⟨v2_6, ev2_6, H⟩ := nm_x H
          refine j_iinc (pc := 27) (L' := [some (.ref 2), none, some (.int v2_6), some (.int v3)]) (w := -1) dX4_holding_27 rfl (by decide) (by decide) v2_6 ev2_6 rfl ?_
          obtain ⟨v3_7, ev3_7, H⟩ := nm_x H
          refine j_iinc (pc := 30) (L' := [some (.ref 2), none, some (.int v2_6), some (.int v3_7)]) (w := 1) dX4_holding_30 rfl (by decide) (by decide) v3_7 ev3_7 rfl ?_
          refine j_goto (pc := 33) (tgt := 4) dX4_holding_33 (by decide) ?_
          refine Jx.sub (L' := [some (.ref 2), none, some (.int v2_6), some (.int v3_7)]) (⟨rfl, ⟨rfl, ⟨rfl, trivial⟩⟩⟩) ?_
          exact ih v2_6 v3_7 h H
        · rw [if_pos c5] at H
          refine j_iload_n (pc := 25) dX4_holding_25 rfl ?_
          exact j_ireturn (pc := 26) dX4_holding_26 rfl (ri_1 H) (ri_2 H)
noncomputable def fX4_holding (p1 : Int32) (h : HS) : Option (Int32 × HS) := fX4_holding_4 FU p1 (0 : Int32) h
set_option maxRecDepth 100000 in
theorem tX4_holding {p1 : Int32} {r : Int32} {h h0 : HS} (H : fX4_holding p1 h = some (r, h0)) : Cn skC yX4_holding cX4_holding 4 (some .int) 0 [.ref 2, .int p1] h (some (.int r)) h0 := by
  refine Cn_of (L := [some (.ref 2), some (.int p1), none, none]) (by decide +kernel) (by simp [lg_sl, Value.category]) (fun ad => by simp [lg_sl, tv, Value.category]) (⟨rfl, ⟨rfl, trivial⟩⟩) ?_
  unfold fX4_holding at H
  refine j_iload_n (pc := 0) dX4_holding_0 rfl ?_
  refine j_istore_n (pc := 1) (L' := [some (.ref 2), some (.int p1), some (.int p1), none]) dX4_holding_1 (by decide) rfl ?_
  refine j_iconst (pc := 2) (v := 0) dX4_holding_2 (by decide) ?_
  refine j_istore_n (pc := 3) (L' := [some (.ref 2), some (.int p1), some (.int p1), some (.int (0 : Int32))]) dX4_holding_3 (by decide) rfl ?_
  refine Jx.sub (L' := [some (.ref 2), none, some (.int p1), some (.int (0 : Int32))]) (⟨rfl, ⟨rfl, ⟨rfl, trivial⟩⟩⟩) ?_
  exact jX4_holding_4 FU p1 (0 : Int32) h H
