theorem dX5_add_0 : decode cX5_add 0 = .ok (.aload_n 0, 1) := by decide +kernel
theorem dX5_add_1 : decode cX5_add 1 = .ok (.getfield 46, 3) := by decide +kernel
theorem dX5_add_4 : decode cX5_add 4 = .ok (.bipush 6, 2) := by decide +kernel
theorem dX5_add_6 : decode cX5_add 6 = .ok (.if_icmp .lt 5, 3) := by decide +kernel
theorem dX5_add_9 : decode cX5_add 9 = .ok (.iconst (-1), 1) := by decide +kernel
theorem dX5_add_10 : decode cX5_add 10 = .ok (.ireturn, 1) := by decide +kernel
theorem dX5_add_11 : decode cX5_add 11 = .ok (.aload_n 0, 1) := by decide +kernel
theorem dX5_add_12 : decode cX5_add 12 = .ok (.getfield 18, 3) := by decide +kernel
theorem dX5_add_15 : decode cX5_add 15 = .ok (.aload_n 0, 1) := by decide +kernel
theorem dX5_add_16 : decode cX5_add 16 = .ok (.getfield 46, 3) := by decide +kernel
theorem dX5_add_19 : decode cX5_add 19 = .ok (.iload_n 1, 1) := by decide +kernel
theorem dX5_add_20 : decode cX5_add 20 = .ok (.iastore, 1) := by decide +kernel
theorem dX5_add_21 : decode cX5_add 21 = .ok (.aload_n 0, 1) := by decide +kernel
theorem dX5_add_22 : decode cX5_add 22 = .ok (.getfield 22, 3) := by decide +kernel
theorem dX5_add_25 : decode cX5_add 25 = .ok (.aload_n 0, 1) := by decide +kernel
theorem dX5_add_26 : decode cX5_add 26 = .ok (.getfield 46, 3) := by decide +kernel
theorem dX5_add_29 : decode cX5_add 29 = .ok (.iload_n 2, 1) := by decide +kernel
theorem dX5_add_30 : decode cX5_add 30 = .ok (.iastore, 1) := by decide +kernel
theorem dX5_add_31 : decode cX5_add 31 = .ok (.aload_n 0, 1) := by decide +kernel
theorem dX5_add_32 : decode cX5_add 32 = .ok (.getfield 25, 3) := by decide +kernel
theorem dX5_add_35 : decode cX5_add 35 = .ok (.aload_n 0, 1) := by decide +kernel
theorem dX5_add_36 : decode cX5_add 36 = .ok (.getfield 46, 3) := by decide +kernel
theorem dX5_add_39 : decode cX5_add 39 = .ok (.iload_n 3, 1) := by decide +kernel
theorem dX5_add_40 : decode cX5_add 40 = .ok (.iastore, 1) := by decide +kernel
theorem dX5_add_41 : decode cX5_add 41 = .ok (.aload_n 0, 1) := by decide +kernel
theorem dX5_add_42 : decode cX5_add 42 = .ok (.getfield 28, 3) := by decide +kernel
theorem dX5_add_45 : decode cX5_add 45 = .ok (.aload_n 0, 1) := by decide +kernel
theorem dX5_add_46 : decode cX5_add 46 = .ok (.getfield 46, 3) := by decide +kernel
theorem dX5_add_49 : decode cX5_add 49 = .ok (.iload 4, 2) := by decide +kernel
theorem dX5_add_51 : decode cX5_add 51 = .ok (.bastore, 1) := by decide +kernel
theorem dX5_add_52 : decode cX5_add 52 = .ok (.aload_n 0, 1) := by decide +kernel
theorem dX5_add_53 : decode cX5_add 53 = .ok (.dup, 1) := by decide +kernel
theorem dX5_add_54 : decode cX5_add 54 = .ok (.getfield 46, 3) := by decide +kernel
theorem dX5_add_57 : decode cX5_add 57 = .ok (.iconst 1, 1) := by decide +kernel
theorem dX5_add_58 : decode cX5_add 58 = .ok (.iadd, 1) := by decide +kernel
theorem dX5_add_59 : decode cX5_add 59 = .ok (.putfield 46, 3) := by decide +kernel
theorem dX5_add_62 : decode cX5_add 62 = .ok (.aload_n 0, 1) := by decide +kernel
theorem dX5_add_63 : decode cX5_add 63 = .ok (.getfield 46, 3) := by decide +kernel
theorem dX5_add_66 : decode cX5_add 66 = .ok (.iconst 1, 1) := by decide +kernel
theorem dX5_add_67 : decode cX5_add 67 = .ok (.isub, 1) := by decide +kernel
theorem dX5_add_68 : decode cX5_add 68 = .ok (.ireturn, 1) := by decide +kernel
theorem dX5_there_0 : decode cX5_there 0 = .ok (.iload_n 1, 1) := by decide +kernel
theorem dX5_there_1 : decode cX5_there 1 = .ok (.ifCond .lt 15, 3) := by decide +kernel
theorem dX5_there_4 : decode cX5_there 4 = .ok (.iload_n 1, 1) := by decide +kernel
theorem dX5_there_5 : decode cX5_there 5 = .ok (.aload_n 0, 1) := by decide +kernel
theorem dX5_there_6 : decode cX5_there 6 = .ok (.getfield 46, 3) := by decide +kernel
theorem dX5_there_9 : decode cX5_there 9 = .ok (.if_icmp .ge 7, 3) := by decide +kernel
theorem dX5_there_12 : decode cX5_there 12 = .ok (.iconst 1, 1) := by decide +kernel
theorem dX5_there_13 : decode cX5_there 13 = .ok (.goto 4, 3) := by decide +kernel
theorem dX5_there_16 : decode cX5_there 16 = .ok (.iconst 0, 1) := by decide +kernel
theorem dX5_there_17 : decode cX5_there 17 = .ok (.ireturn, 1) := by decide +kernel
theorem dX5_takes_0 : decode cX5_takes 0 = .ok (.aload_n 0, 1) := by decide +kernel
theorem dX5_takes_1 : decode cX5_takes 1 = .ok (.getfield 45, 3) := by decide +kernel
theorem dX5_takes_4 : decode cX5_takes 4 = .ok (.iload_n 1, 1) := by decide +kernel
theorem dX5_takes_5 : decode cX5_takes 5 = .ok (.invokevirtual 54, 3) := by decide +kernel
theorem dX5_takes_8 : decode cX5_takes 8 = .ok (.ifCond .eq 30, 3) := by decide +kernel
theorem dX5_takes_11 : decode cX5_takes 11 = .ok (.aload_n 0, 1) := by decide +kernel
theorem dX5_takes_12 : decode cX5_takes 12 = .ok (.getfield 45, 3) := by decide +kernel
theorem dX5_takes_15 : decode cX5_takes 15 = .ok (.getfield 60, 3) := by decide +kernel
theorem dX5_takes_18 : decode cX5_takes 18 = .ok (.iload_n 1, 1) := by decide +kernel
theorem dX5_takes_19 : decode cX5_takes 19 = .ok (.iaload, 1) := by decide +kernel
theorem dX5_takes_20 : decode cX5_takes 20 = .ok (.iload_n 2, 1) := by decide +kernel
theorem dX5_takes_21 : decode cX5_takes 21 = .ok (.iadd, 1) := by decide +kernel
theorem dX5_takes_22 : decode cX5_takes 22 = .ok (.iconst 0, 1) := by decide +kernel
theorem dX5_takes_23 : decode cX5_takes 23 = .ok (.aload_n 0, 1) := by decide +kernel
theorem dX5_takes_24 : decode cX5_takes 24 = .ok (.getfield 45, 3) := by decide +kernel
theorem dX5_takes_27 : decode cX5_takes 27 = .ok (.getfield 63, 3) := by decide +kernel
theorem dX5_takes_30 : decode cX5_takes 30 = .ok (.iload_n 1, 1) := by decide +kernel
theorem dX5_takes_31 : decode cX5_takes 31 = .ok (.iaload, 1) := by decide +kernel
theorem dX5_takes_32 : decode cX5_takes 32 = .ok (.invokestatic 66, 3) := by decide +kernel
theorem dX5_takes_35 : decode cX5_takes 35 = .ok (.ifCond .eq 7, 3) := by decide +kernel
theorem dX5_takes_38 : decode cX5_takes 38 = .ok (.iconst 1, 1) := by decide +kernel
theorem dX5_takes_39 : decode cX5_takes 39 = .ok (.goto 4, 3) := by decide +kernel
theorem dX5_takes_42 : decode cX5_takes 42 = .ok (.iconst 0, 1) := by decide +kernel
theorem dX5_takes_43 : decode cX5_takes 43 = .ok (.ireturn, 1) := by decide +kernel
theorem dX5_can_0 : decode cX5_can 0 = .ok (.iload_n 2, 1) := by decide +kernel
theorem dX5_can_1 : decode cX5_can 1 = .ok (.aload_n 0, 1) := by decide +kernel
theorem dX5_can_2 : decode cX5_can 2 = .ok (.getfield 25, 3) := by decide +kernel
theorem dX5_can_5 : decode cX5_can 5 = .ok (.iload_n 1, 1) := by decide +kernel
theorem dX5_can_6 : decode cX5_can 6 = .ok (.iaload, 1) := by decide +kernel
theorem dX5_can_7 : decode cX5_can 7 = .ok (.imul, 1) := by decide +kernel
theorem dX5_can_8 : decode cX5_can 8 = .ok (.istore_n 3, 1) := by decide +kernel
theorem dX5_can_9 : decode cX5_can 9 = .ok (.aload_n 0, 1) := by decide +kernel
theorem dX5_can_10 : decode cX5_can 10 = .ok (.aload_n 0, 1) := by decide +kernel
theorem dX5_can_11 : decode cX5_can 11 = .ok (.getfield 18, 3) := by decide +kernel
theorem dX5_can_14 : decode cX5_can 14 = .ok (.iload_n 1, 1) := by decide +kernel
theorem dX5_can_15 : decode cX5_can 15 = .ok (.iaload, 1) := by decide +kernel
theorem dX5_can_16 : decode cX5_can 16 = .ok (.iload_n 3, 1) := by decide +kernel
theorem dX5_can_17 : decode cX5_can 17 = .ok (.ineg, 1) := by decide +kernel
theorem dX5_can_18 : decode cX5_can 18 = .ok (.invokevirtual 50, 3) := by decide +kernel
theorem dX5_can_21 : decode cX5_can 21 = .ok (.ifCond .eq 21, 3) := by decide +kernel
theorem dX5_can_24 : decode cX5_can 24 = .ok (.aload_n 0, 1) := by decide +kernel
theorem dX5_can_25 : decode cX5_can 25 = .ok (.aload_n 0, 1) := by decide +kernel
theorem dX5_can_26 : decode cX5_can 26 = .ok (.getfield 22, 3) := by decide +kernel
theorem dX5_can_29 : decode cX5_can 29 = .ok (.iload_n 1, 1) := by decide +kernel
theorem dX5_can_30 : decode cX5_can 30 = .ok (.iaload, 1) := by decide +kernel
theorem dX5_can_31 : decode cX5_can 31 = .ok (.iload_n 3, 1) := by decide +kernel
theorem dX5_can_32 : decode cX5_can 32 = .ok (.invokevirtual 50, 3) := by decide +kernel
theorem dX5_can_35 : decode cX5_can 35 = .ok (.ifCond .eq 7, 3) := by decide +kernel
theorem dX5_can_38 : decode cX5_can 38 = .ok (.iconst 1, 1) := by decide +kernel
theorem dX5_can_39 : decode cX5_can 39 = .ok (.goto 4, 3) := by decide +kernel
theorem dX5_can_42 : decode cX5_can 42 = .ok (.iconst 0, 1) := by decide +kernel
theorem dX5_can_43 : decode cX5_can 43 = .ok (.ireturn, 1) := by decide +kernel
theorem dX5_move_0 : decode cX5_move 0 = .ok (.iload_n 2, 1) := by decide +kernel
theorem dX5_move_1 : decode cX5_move 1 = .ok (.aload_n 0, 1) := by decide +kernel
theorem dX5_move_2 : decode cX5_move 2 = .ok (.getfield 25, 3) := by decide +kernel
theorem dX5_move_5 : decode cX5_move 5 = .ok (.iload_n 1, 1) := by decide +kernel
theorem dX5_move_6 : decode cX5_move 6 = .ok (.iaload, 1) := by decide +kernel
theorem dX5_move_7 : decode cX5_move 7 = .ok (.imul, 1) := by decide +kernel
theorem dX5_move_8 : decode cX5_move 8 = .ok (.istore_n 3, 1) := by decide +kernel
theorem dX5_move_9 : decode cX5_move 9 = .ok (.aload_n 0, 1) := by decide +kernel
theorem dX5_move_10 : decode cX5_move 10 = .ok (.getfield 45, 3) := by decide +kernel
theorem dX5_move_13 : decode cX5_move 13 = .ok (.aload_n 0, 1) := by decide +kernel
theorem dX5_move_14 : decode cX5_move 14 = .ok (.getfield 18, 3) := by decide +kernel
theorem dX5_move_17 : decode cX5_move 17 = .ok (.iload_n 1, 1) := by decide +kernel
theorem dX5_move_18 : decode cX5_move 18 = .ok (.iaload, 1) := by decide +kernel
theorem dX5_move_19 : decode cX5_move 19 = .ok (.invokevirtual 54, 3) := by decide +kernel
theorem dX5_move_22 : decode cX5_move 22 = .ok (.ifCond .eq 21, 3) := by decide +kernel
theorem dX5_move_25 : decode cX5_move 25 = .ok (.aload_n 0, 1) := by decide +kernel
theorem dX5_move_26 : decode cX5_move 26 = .ok (.getfield 45, 3) := by decide +kernel
theorem dX5_move_29 : decode cX5_move 29 = .ok (.getfield 60, 3) := by decide +kernel
theorem dX5_move_32 : decode cX5_move 32 = .ok (.aload_n 0, 1) := by decide +kernel
theorem dX5_move_33 : decode cX5_move 33 = .ok (.getfield 18, 3) := by decide +kernel
theorem dX5_move_36 : decode cX5_move 36 = .ok (.iload_n 1, 1) := by decide +kernel
theorem dX5_move_37 : decode cX5_move 37 = .ok (.iaload, 1) := by decide +kernel
theorem dX5_move_38 : decode cX5_move 38 = .ok (.dup2, 1) := by decide +kernel
theorem dX5_move_39 : decode cX5_move 39 = .ok (.iaload, 1) := by decide +kernel
theorem dX5_move_40 : decode cX5_move 40 = .ok (.iload_n 3, 1) := by decide +kernel
theorem dX5_move_41 : decode cX5_move 41 = .ok (.isub, 1) := by decide +kernel
theorem dX5_move_42 : decode cX5_move 42 = .ok (.iastore, 1) := by decide +kernel
theorem dX5_move_43 : decode cX5_move 43 = .ok (.aload_n 0, 1) := by decide +kernel
theorem dX5_move_44 : decode cX5_move 44 = .ok (.getfield 45, 3) := by decide +kernel
theorem dX5_move_47 : decode cX5_move 47 = .ok (.aload_n 0, 1) := by decide +kernel
theorem dX5_move_48 : decode cX5_move 48 = .ok (.getfield 22, 3) := by decide +kernel
theorem dX5_move_51 : decode cX5_move 51 = .ok (.iload_n 1, 1) := by decide +kernel
theorem dX5_move_52 : decode cX5_move 52 = .ok (.iaload, 1) := by decide +kernel
theorem dX5_move_53 : decode cX5_move 53 = .ok (.invokevirtual 54, 3) := by decide +kernel
theorem dX5_move_56 : decode cX5_move 56 = .ok (.ifCond .eq 21, 3) := by decide +kernel
theorem dX5_move_59 : decode cX5_move 59 = .ok (.aload_n 0, 1) := by decide +kernel
theorem dX5_move_60 : decode cX5_move 60 = .ok (.getfield 45, 3) := by decide +kernel
theorem dX5_move_63 : decode cX5_move 63 = .ok (.getfield 60, 3) := by decide +kernel
theorem dX5_move_66 : decode cX5_move 66 = .ok (.aload_n 0, 1) := by decide +kernel
theorem dX5_move_67 : decode cX5_move 67 = .ok (.getfield 22, 3) := by decide +kernel
theorem dX5_move_70 : decode cX5_move 70 = .ok (.iload_n 1, 1) := by decide +kernel
theorem dX5_move_71 : decode cX5_move 71 = .ok (.iaload, 1) := by decide +kernel
theorem dX5_move_72 : decode cX5_move 72 = .ok (.dup2, 1) := by decide +kernel
theorem dX5_move_73 : decode cX5_move 73 = .ok (.iaload, 1) := by decide +kernel
theorem dX5_move_74 : decode cX5_move 74 = .ok (.iload_n 3, 1) := by decide +kernel
theorem dX5_move_75 : decode cX5_move 75 = .ok (.iadd, 1) := by decide +kernel
theorem dX5_move_76 : decode cX5_move 76 = .ok (.iastore, 1) := by decide +kernel
theorem dX5_move_77 : decode cX5_move 77 = .ok (.return_, 1) := by decide +kernel
theorem dX5_weightGain_0 : decode cX5_weightGain 0 = .ok (.aload_n 0, 1) := by decide +kernel
theorem dX5_weightGain_1 : decode cX5_weightGain 1 = .ok (.getfield 45, 3) := by decide +kernel
theorem dX5_weightGain_4 : decode cX5_weightGain 4 = .ok (.aload_n 0, 1) := by decide +kernel
theorem dX5_weightGain_5 : decode cX5_weightGain 5 = .ok (.getfield 22, 3) := by decide +kernel
theorem dX5_weightGain_8 : decode cX5_weightGain 8 = .ok (.iload_n 1, 1) := by decide +kernel
theorem dX5_weightGain_9 : decode cX5_weightGain 9 = .ok (.iaload, 1) := by decide +kernel
theorem dX5_weightGain_10 : decode cX5_weightGain 10 = .ok (.invokevirtual 54, 3) := by decide +kernel
theorem dX5_weightGain_13 : decode cX5_weightGain 13 = .ok (.ifCond .eq 7, 3) := by decide +kernel
theorem dX5_weightGain_16 : decode cX5_weightGain 16 = .ok (.iconst 1, 1) := by decide +kernel
theorem dX5_weightGain_17 : decode cX5_weightGain 17 = .ok (.goto 4, 3) := by decide +kernel
theorem dX5_weightGain_20 : decode cX5_weightGain 20 = .ok (.iconst 0, 1) := by decide +kernel
theorem dX5_weightGain_21 : decode cX5_weightGain 21 = .ok (.aload_n 0, 1) := by decide +kernel
theorem dX5_weightGain_22 : decode cX5_weightGain 22 = .ok (.getfield 45, 3) := by decide +kernel
theorem dX5_weightGain_25 : decode cX5_weightGain 25 = .ok (.aload_n 0, 1) := by decide +kernel
theorem dX5_weightGain_26 : decode cX5_weightGain 26 = .ok (.getfield 18, 3) := by decide +kernel
theorem dX5_weightGain_29 : decode cX5_weightGain 29 = .ok (.iload_n 1, 1) := by decide +kernel
theorem dX5_weightGain_30 : decode cX5_weightGain 30 = .ok (.iaload, 1) := by decide +kernel
theorem dX5_weightGain_31 : decode cX5_weightGain 31 = .ok (.invokevirtual 54, 3) := by decide +kernel
theorem dX5_weightGain_34 : decode cX5_weightGain 34 = .ok (.ifCond .eq 7, 3) := by decide +kernel
theorem dX5_weightGain_37 : decode cX5_weightGain 37 = .ok (.iconst 1, 1) := by decide +kernel
theorem dX5_weightGain_38 : decode cX5_weightGain 38 = .ok (.goto 4, 3) := by decide +kernel
theorem dX5_weightGain_41 : decode cX5_weightGain 41 = .ok (.iconst 0, 1) := by decide +kernel
theorem dX5_weightGain_42 : decode cX5_weightGain 42 = .ok (.isub, 1) := by decide +kernel
theorem dX5_weightGain_43 : decode cX5_weightGain 43 = .ok (.ireturn, 1) := by decide +kernel
theorem dX5_momentGain_0 : decode cX5_momentGain 0 = .ok (.aload_n 0, 1) := by decide +kernel
theorem dX5_momentGain_1 : decode cX5_momentGain 1 = .ok (.getfield 45, 3) := by decide +kernel
theorem dX5_momentGain_4 : decode cX5_momentGain 4 = .ok (.aload_n 0, 1) := by decide +kernel
theorem dX5_momentGain_5 : decode cX5_momentGain 5 = .ok (.getfield 22, 3) := by decide +kernel
theorem dX5_momentGain_8 : decode cX5_momentGain 8 = .ok (.iload_n 1, 1) := by decide +kernel
theorem dX5_momentGain_9 : decode cX5_momentGain 9 = .ok (.iaload, 1) := by decide +kernel
theorem dX5_momentGain_10 : decode cX5_momentGain 10 = .ok (.invokevirtual 54, 3) := by decide +kernel
theorem dX5_momentGain_13 : decode cX5_momentGain 13 = .ok (.ifCond .eq 20, 3) := by decide +kernel
theorem dX5_momentGain_16 : decode cX5_momentGain 16 = .ok (.aload_n 0, 1) := by decide +kernel
theorem dX5_momentGain_17 : decode cX5_momentGain 17 = .ok (.getfield 45, 3) := by decide +kernel
theorem dX5_momentGain_20 : decode cX5_momentGain 20 = .ok (.getfield 70, 3) := by decide +kernel
theorem dX5_momentGain_23 : decode cX5_momentGain 23 = .ok (.aload_n 0, 1) := by decide +kernel
theorem dX5_momentGain_24 : decode cX5_momentGain 24 = .ok (.getfield 22, 3) := by decide +kernel
theorem dX5_momentGain_27 : decode cX5_momentGain 27 = .ok (.iload_n 1, 1) := by decide +kernel
theorem dX5_momentGain_28 : decode cX5_momentGain 28 = .ok (.iaload, 1) := by decide +kernel
theorem dX5_momentGain_29 : decode cX5_momentGain 29 = .ok (.iaload, 1) := by decide +kernel
theorem dX5_momentGain_30 : decode cX5_momentGain 30 = .ok (.goto 4, 3) := by decide +kernel
theorem dX5_momentGain_33 : decode cX5_momentGain 33 = .ok (.iconst 0, 1) := by decide +kernel
theorem dX5_momentGain_34 : decode cX5_momentGain 34 = .ok (.aload_n 0, 1) := by decide +kernel
theorem dX5_momentGain_35 : decode cX5_momentGain 35 = .ok (.getfield 45, 3) := by decide +kernel
theorem dX5_momentGain_38 : decode cX5_momentGain 38 = .ok (.aload_n 0, 1) := by decide +kernel
theorem dX5_momentGain_39 : decode cX5_momentGain 39 = .ok (.getfield 18, 3) := by decide +kernel
theorem dX5_momentGain_42 : decode cX5_momentGain 42 = .ok (.iload_n 1, 1) := by decide +kernel
theorem dX5_momentGain_43 : decode cX5_momentGain 43 = .ok (.iaload, 1) := by decide +kernel
theorem dX5_momentGain_44 : decode cX5_momentGain 44 = .ok (.invokevirtual 54, 3) := by decide +kernel
theorem dX5_momentGain_47 : decode cX5_momentGain 47 = .ok (.ifCond .eq 20, 3) := by decide +kernel
theorem dX5_momentGain_50 : decode cX5_momentGain 50 = .ok (.aload_n 0, 1) := by decide +kernel
theorem dX5_momentGain_51 : decode cX5_momentGain 51 = .ok (.getfield 45, 3) := by decide +kernel
theorem dX5_momentGain_54 : decode cX5_momentGain 54 = .ok (.getfield 70, 3) := by decide +kernel
theorem dX5_momentGain_57 : decode cX5_momentGain 57 = .ok (.aload_n 0, 1) := by decide +kernel
theorem dX5_momentGain_58 : decode cX5_momentGain 58 = .ok (.getfield 18, 3) := by decide +kernel
theorem dX5_momentGain_61 : decode cX5_momentGain 61 = .ok (.iload_n 1, 1) := by decide +kernel
theorem dX5_momentGain_62 : decode cX5_momentGain 62 = .ok (.iaload, 1) := by decide +kernel
theorem dX5_momentGain_63 : decode cX5_momentGain 63 = .ok (.iaload, 1) := by decide +kernel
theorem dX5_momentGain_64 : decode cX5_momentGain 64 = .ok (.goto 4, 3) := by decide +kernel
theorem dX5_momentGain_67 : decode cX5_momentGain 67 = .ok (.iconst 0, 1) := by decide +kernel
theorem dX5_momentGain_68 : decode cX5_momentGain 68 = .ok (.isub, 1) := by decide +kernel
theorem dX5_momentGain_69 : decode cX5_momentGain 69 = .ok (.ireturn, 1) := by decide +kernel
theorem dX5_considerRun_0 : decode cX5_considerRun 0 = .ok (.aload_n 0, 1) := by decide +kernel
theorem dX5_considerRun_1 : decode cX5_considerRun 1 = .ok (.iload_n 1, 1) := by decide +kernel
theorem dX5_considerRun_2 : decode cX5_considerRun 2 = .ok (.iload_n 2, 1) := by decide +kernel
theorem dX5_considerRun_3 : decode cX5_considerRun 3 = .ok (.invokevirtual 97, 3) := by decide +kernel
theorem dX5_considerRun_6 : decode cX5_considerRun 6 = .ok (.ifCond .ne 4, 3) := by decide +kernel
theorem dX5_considerRun_9 : decode cX5_considerRun 9 = .ok (.return_, 1) := by decide +kernel
theorem dX5_considerRun_10 : decode cX5_considerRun 10 = .ok (.iload_n 3, 1) := by decide +kernel
theorem dX5_considerRun_11 : decode cX5_considerRun 11 = .ok (.iload_n 2, 1) := by decide +kernel
theorem dX5_considerRun_12 : decode cX5_considerRun 12 = .ok (.aload_n 0, 1) := by decide +kernel
theorem dX5_considerRun_13 : decode cX5_considerRun 13 = .ok (.getfield 25, 3) := by decide +kernel
theorem dX5_considerRun_16 : decode cX5_considerRun 16 = .ok (.iload_n 1, 1) := by decide +kernel
theorem dX5_considerRun_17 : decode cX5_considerRun 17 = .ok (.iaload, 1) := by decide +kernel
theorem dX5_considerRun_18 : decode cX5_considerRun 18 = .ok (.imul, 1) := by decide +kernel
theorem dX5_considerRun_19 : decode cX5_considerRun 19 = .ok (.aload_n 0, 1) := by decide +kernel
theorem dX5_considerRun_20 : decode cX5_considerRun 20 = .ok (.iload_n 1, 1) := by decide +kernel
theorem dX5_considerRun_21 : decode cX5_considerRun 21 = .ok (.invokevirtual 100, 3) := by decide +kernel
theorem dX5_considerRun_24 : decode cX5_considerRun 24 = .ok (.imul, 1) := by decide +kernel
theorem dX5_considerRun_25 : decode cX5_considerRun 25 = .ok (.iadd, 1) := by decide +kernel
theorem dX5_considerRun_26 : decode cX5_considerRun 26 = .ok (.istore 5, 2) := by decide +kernel
theorem dX5_considerRun_28 : decode cX5_considerRun 28 = .ok (.iload 4, 2) := by decide +kernel
theorem dX5_considerRun_30 : decode cX5_considerRun 30 = .ok (.iload_n 2, 1) := by decide +kernel
theorem dX5_considerRun_31 : decode cX5_considerRun 31 = .ok (.aload_n 0, 1) := by decide +kernel
theorem dX5_considerRun_32 : decode cX5_considerRun 32 = .ok (.getfield 25, 3) := by decide +kernel
theorem dX5_considerRun_35 : decode cX5_considerRun 35 = .ok (.iload_n 1, 1) := by decide +kernel
theorem dX5_considerRun_36 : decode cX5_considerRun 36 = .ok (.iaload, 1) := by decide +kernel
theorem dX5_considerRun_37 : decode cX5_considerRun 37 = .ok (.imul, 1) := by decide +kernel
theorem dX5_considerRun_38 : decode cX5_considerRun 38 = .ok (.aload_n 0, 1) := by decide +kernel
theorem dX5_considerRun_39 : decode cX5_considerRun 39 = .ok (.iload_n 1, 1) := by decide +kernel
theorem dX5_considerRun_40 : decode cX5_considerRun 40 = .ok (.invokevirtual 103, 3) := by decide +kernel
theorem dX5_considerRun_43 : decode cX5_considerRun 43 = .ok (.imul, 1) := by decide +kernel
theorem dX5_considerRun_44 : decode cX5_considerRun 44 = .ok (.iadd, 1) := by decide +kernel
theorem dX5_considerRun_45 : decode cX5_considerRun 45 = .ok (.istore 6, 2) := by decide +kernel
theorem dX5_considerRun_47 : decode cX5_considerRun 47 = .ok (.iload 5, 2) := by decide +kernel
theorem dX5_considerRun_49 : decode cX5_considerRun 49 = .ok (.invokestatic 106, 3) := by decide +kernel
theorem dX5_considerRun_52 : decode cX5_considerRun 52 = .ok (.aload_n 0, 1) := by decide +kernel
theorem dX5_considerRun_53 : decode cX5_considerRun 53 = .ok (.getfield 87, 3) := by decide +kernel
theorem dX5_considerRun_56 : decode cX5_considerRun 56 = .ok (.invokestatic 106, 3) := by decide +kernel
theorem dX5_considerRun_59 : decode cX5_considerRun 59 = .ok (.if_icmp .ge 7, 3) := by decide +kernel
theorem dX5_considerRun_62 : decode cX5_considerRun 62 = .ok (.iconst 1, 1) := by decide +kernel
theorem dX5_considerRun_63 : decode cX5_considerRun 63 = .ok (.goto 4, 3) := by decide +kernel
theorem dX5_considerRun_66 : decode cX5_considerRun 66 = .ok (.iconst 0, 1) := by decide +kernel
theorem dX5_considerRun_67 : decode cX5_considerRun 67 = .ok (.istore 7, 2) := by decide +kernel
theorem dX5_considerRun_69 : decode cX5_considerRun 69 = .ok (.iload 5, 2) := by decide +kernel
theorem dX5_considerRun_71 : decode cX5_considerRun 71 = .ok (.invokestatic 106, 3) := by decide +kernel
theorem dX5_considerRun_74 : decode cX5_considerRun 74 = .ok (.aload_n 0, 1) := by decide +kernel
theorem dX5_considerRun_75 : decode cX5_considerRun 75 = .ok (.getfield 87, 3) := by decide +kernel
theorem dX5_considerRun_78 : decode cX5_considerRun 78 = .ok (.invokestatic 106, 3) := by decide +kernel
theorem dX5_considerRun_81 : decode cX5_considerRun 81 = .ok (.if_icmp .ne 7, 3) := by decide +kernel
theorem dX5_considerRun_84 : decode cX5_considerRun 84 = .ok (.iconst 1, 1) := by decide +kernel
theorem dX5_considerRun_85 : decode cX5_considerRun 85 = .ok (.goto 4, 3) := by decide +kernel
theorem dX5_considerRun_88 : decode cX5_considerRun 88 = .ok (.iconst 0, 1) := by decide +kernel
theorem dX5_considerRun_89 : decode cX5_considerRun 89 = .ok (.istore 8, 2) := by decide +kernel
theorem dX5_considerRun_91 : decode cX5_considerRun 91 = .ok (.iload 7, 2) := by decide +kernel
theorem dX5_considerRun_93 : decode cX5_considerRun 93 = .ok (.ifCond .ne 23, 3) := by decide +kernel
theorem dX5_considerRun_96 : decode cX5_considerRun 96 = .ok (.iload 8, 2) := by decide +kernel
theorem dX5_considerRun_98 : decode cX5_considerRun 98 = .ok (.ifCond .eq 35, 3) := by decide +kernel
theorem dX5_considerRun_101 : decode cX5_considerRun 101 = .ok (.iload 6, 2) := by decide +kernel
theorem dX5_considerRun_103 : decode cX5_considerRun 103 = .ok (.invokestatic 106, 3) := by decide +kernel
theorem dX5_considerRun_106 : decode cX5_considerRun 106 = .ok (.aload_n 0, 1) := by decide +kernel
theorem dX5_considerRun_107 : decode cX5_considerRun 107 = .ok (.getfield 90, 3) := by decide +kernel
theorem dX5_considerRun_110 : decode cX5_considerRun 110 = .ok (.invokestatic 106, 3) := by decide +kernel
theorem dX5_considerRun_113 : decode cX5_considerRun 113 = .ok (.if_icmp .ge 20, 3) := by decide +kernel
theorem dX5_considerRun_116 : decode cX5_considerRun 116 = .ok (.aload_n 0, 1) := by decide +kernel
theorem dX5_considerRun_117 : decode cX5_considerRun 117 = .ok (.iload_n 2, 1) := by decide +kernel
theorem dX5_considerRun_118 : decode cX5_considerRun 118 = .ok (.putfield 84, 3) := by decide +kernel
theorem dX5_considerRun_121 : decode cX5_considerRun 121 = .ok (.aload_n 0, 1) := by decide +kernel
theorem dX5_considerRun_122 : decode cX5_considerRun 122 = .ok (.iload 5, 2) := by decide +kernel
theorem dX5_considerRun_124 : decode cX5_considerRun 124 = .ok (.putfield 87, 3) := by decide +kernel
theorem dX5_considerRun_127 : decode cX5_considerRun 127 = .ok (.aload_n 0, 1) := by decide +kernel
theorem dX5_considerRun_128 : decode cX5_considerRun 128 = .ok (.iload 6, 2) := by decide +kernel
theorem dX5_considerRun_130 : decode cX5_considerRun 130 = .ok (.putfield 90, 3) := by decide +kernel
theorem dX5_considerRun_133 : decode cX5_considerRun 133 = .ok (.return_, 1) := by decide +kernel
theorem dX5_findBest_0 : decode cX5_findBest 0 = .ok (.aload_n 0, 1) := by decide +kernel
theorem dX5_findBest_1 : decode cX5_findBest 1 = .ok (.getfield 35, 3) := by decide +kernel
theorem dX5_findBest_4 : decode cX5_findBest 4 = .ok (.iload_n 2, 1) := by decide +kernel
theorem dX5_findBest_5 : decode cX5_findBest 5 = .ok (.invokevirtual 76, 3) := by decide +kernel
theorem dX5_findBest_8 : decode cX5_findBest 8 = .ok (.istore_n 3, 1) := by decide +kernel
theorem dX5_findBest_9 : decode cX5_findBest 9 = .ok (.aload_n 0, 1) := by decide +kernel
theorem dX5_findBest_10 : decode cX5_findBest 10 = .ok (.getfield 35, 3) := by decide +kernel
theorem dX5_findBest_13 : decode cX5_findBest 13 = .ok (.invokevirtual 80, 3) := by decide +kernel
theorem dX5_findBest_16 : decode cX5_findBest 16 = .ok (.istore 4, 2) := by decide +kernel
theorem dX5_findBest_18 : decode cX5_findBest 18 = .ok (.aload_n 0, 1) := by decide +kernel
theorem dX5_findBest_19 : decode cX5_findBest 19 = .ok (.iconst 0, 1) := by decide +kernel
theorem dX5_findBest_20 : decode cX5_findBest 20 = .ok (.putfield 84, 3) := by decide +kernel
theorem dX5_findBest_23 : decode cX5_findBest 23 = .ok (.aload_n 0, 1) := by decide +kernel
theorem dX5_findBest_24 : decode cX5_findBest 24 = .ok (.iload_n 3, 1) := by decide +kernel
theorem dX5_findBest_25 : decode cX5_findBest 25 = .ok (.putfield 87, 3) := by decide +kernel
theorem dX5_findBest_28 : decode cX5_findBest 28 = .ok (.aload_n 0, 1) := by decide +kernel
theorem dX5_findBest_29 : decode cX5_findBest 29 = .ok (.iload 4, 2) := by decide +kernel
theorem dX5_findBest_31 : decode cX5_findBest 31 = .ok (.putfield 90, 3) := by decide +kernel
theorem dX5_findBest_34 : decode cX5_findBest 34 = .ok (.iconst 1, 1) := by decide +kernel
theorem dX5_findBest_35 : decode cX5_findBest 35 = .ok (.istore 5, 2) := by decide +kernel
theorem dX5_findBest_37 : decode cX5_findBest 37 = .ok (.iload 5, 2) := by decide +kernel
theorem dX5_findBest_39 : decode cX5_findBest 39 = .ok (.bipush 99, 2) := by decide +kernel
theorem dX5_findBest_41 : decode cX5_findBest 41 = .ok (.if_icmp .gt 30, 3) := by decide +kernel
theorem dX5_findBest_44 : decode cX5_findBest 44 = .ok (.aload_n 0, 1) := by decide +kernel
theorem dX5_findBest_45 : decode cX5_findBest 45 = .ok (.iload_n 1, 1) := by decide +kernel
theorem dX5_findBest_46 : decode cX5_findBest 46 = .ok (.iload 5, 2) := by decide +kernel
theorem dX5_findBest_48 : decode cX5_findBest 48 = .ok (.ineg, 1) := by decide +kernel
theorem dX5_findBest_49 : decode cX5_findBest 49 = .ok (.iload_n 3, 1) := by decide +kernel
theorem dX5_findBest_50 : decode cX5_findBest 50 = .ok (.iload 4, 2) := by decide +kernel
theorem dX5_findBest_52 : decode cX5_findBest 52 = .ok (.invokevirtual 93, 3) := by decide +kernel
theorem dX5_findBest_55 : decode cX5_findBest 55 = .ok (.aload_n 0, 1) := by decide +kernel
theorem dX5_findBest_56 : decode cX5_findBest 56 = .ok (.iload_n 1, 1) := by decide +kernel
theorem dX5_findBest_57 : decode cX5_findBest 57 = .ok (.iload 5, 2) := by decide +kernel
theorem dX5_findBest_59 : decode cX5_findBest 59 = .ok (.iload_n 3, 1) := by decide +kernel
theorem dX5_findBest_60 : decode cX5_findBest 60 = .ok (.iload 4, 2) := by decide +kernel
theorem dX5_findBest_62 : decode cX5_findBest 62 = .ok (.invokevirtual 93, 3) := by decide +kernel
theorem dX5_findBest_65 : decode cX5_findBest 65 = .ok (.iinc 5 1, 3) := by decide +kernel
theorem dX5_findBest_68 : decode cX5_findBest 68 = .ok (.goto (-31), 3) := by decide +kernel
theorem dX5_findBest_71 : decode cX5_findBest 71 = .ok (.return_, 1) := by decide +kernel
theorem dX5_noteFound_0 : decode cX5_noteFound 0 = .ok (.aload_n 0, 1) := by decide +kernel
theorem dX5_noteFound_1 : decode cX5_noteFound 1 = .ok (.getfield 32, 3) := by decide +kernel
theorem dX5_noteFound_4 : decode cX5_noteFound 4 = .ok (.iconst 0, 1) := by decide +kernel
theorem dX5_noteFound_5 : decode cX5_noteFound 5 = .ok (.iload_n 1, 1) := by decide +kernel
theorem dX5_noteFound_6 : decode cX5_noteFound 6 = .ok (.iastore, 1) := by decide +kernel
theorem dX5_noteFound_7 : decode cX5_noteFound 7 = .ok (.aload_n 0, 1) := by decide +kernel
theorem dX5_noteFound_8 : decode cX5_noteFound 8 = .ok (.getfield 32, 3) := by decide +kernel
theorem dX5_noteFound_11 : decode cX5_noteFound 11 = .ok (.iconst 1, 1) := by decide +kernel
theorem dX5_noteFound_12 : decode cX5_noteFound 12 = .ok (.iload_n 2, 1) := by decide +kernel
theorem dX5_noteFound_13 : decode cX5_noteFound 13 = .ok (.iastore, 1) := by decide +kernel
theorem dX5_noteFound_14 : decode cX5_noteFound 14 = .ok (.aload_n 0, 1) := by decide +kernel
theorem dX5_noteFound_15 : decode cX5_noteFound 15 = .ok (.getfield 32, 3) := by decide +kernel
theorem dX5_noteFound_18 : decode cX5_noteFound 18 = .ok (.iconst 2, 1) := by decide +kernel
theorem dX5_noteFound_19 : decode cX5_noteFound 19 = .ok (.iload_n 3, 1) := by decide +kernel
theorem dX5_noteFound_20 : decode cX5_noteFound 20 = .ok (.iastore, 1) := by decide +kernel
theorem dX5_noteFound_21 : decode cX5_noteFound 21 = .ok (.aload_n 0, 1) := by decide +kernel
theorem dX5_noteFound_22 : decode cX5_noteFound 22 = .ok (.getfield 32, 3) := by decide +kernel
theorem dX5_noteFound_25 : decode cX5_noteFound 25 = .ok (.iconst 3, 1) := by decide +kernel
theorem dX5_noteFound_26 : decode cX5_noteFound 26 = .ok (.iload 4, 2) := by decide +kernel
theorem dX5_noteFound_28 : decode cX5_noteFound 28 = .ok (.iastore, 1) := by decide +kernel
theorem dX5_noteFound_29 : decode cX5_noteFound 29 = .ok (.aload_n 0, 1) := by decide +kernel
theorem dX5_noteFound_30 : decode cX5_noteFound 30 = .ok (.iload_n 3, 1) := by decide +kernel
theorem dX5_noteFound_31 : decode cX5_noteFound 31 = .ok (.iconst (-1), 1) := by decide +kernel
theorem dX5_noteFound_32 : decode cX5_noteFound 32 = .ok (.if_icmp .ne 7, 3) := by decide +kernel
theorem dX5_noteFound_35 : decode cX5_noteFound 35 = .ok (.iconst 2, 1) := by decide +kernel
theorem dX5_noteFound_36 : decode cX5_noteFound 36 = .ok (.goto 4, 3) := by decide +kernel
theorem dX5_noteFound_39 : decode cX5_noteFound 39 = .ok (.iconst 4, 1) := by decide +kernel
theorem dX5_noteFound_40 : decode cX5_noteFound 40 = .ok (.putfield 111, 3) := by decide +kernel
theorem dX5_noteFound_43 : decode cX5_noteFound 43 = .ok (.aload_n 0, 1) := by decide +kernel
theorem dX5_noteFound_44 : decode cX5_noteFound 44 = .ok (.iload_n 2, 1) := by decide +kernel
theorem dX5_noteFound_45 : decode cX5_noteFound 45 = .ok (.invokestatic 106, 3) := by decide +kernel
theorem dX5_noteFound_48 : decode cX5_noteFound 48 = .ok (.iload 4, 2) := by decide +kernel
theorem dX5_noteFound_50 : decode cX5_noteFound 50 = .ok (.invokestatic 106, 3) := by decide +kernel
theorem dX5_noteFound_53 : decode cX5_noteFound 53 = .ok (.iadd, 1) := by decide +kernel
theorem dX5_noteFound_54 : decode cX5_noteFound 54 = .ok (.putfield 84, 3) := by decide +kernel
theorem dX5_noteFound_57 : decode cX5_noteFound 57 = .ok (.return_, 1) := by decide +kernel
theorem dX5_boundByEnd_0 : decode cX5_boundByEnd 0 = .ok (.aload_n 0, 1) := by decide +kernel
theorem dX5_boundByEnd_1 : decode cX5_boundByEnd 1 = .ok (.getfield 45, 3) := by decide +kernel
theorem dX5_boundByEnd_4 : decode cX5_boundByEnd 4 = .ok (.iload_n 1, 1) := by decide +kernel
theorem dX5_boundByEnd_5 : decode cX5_boundByEnd 5 = .ok (.invokevirtual 54, 3) := by decide +kernel
theorem dX5_boundByEnd_8 : decode cX5_boundByEnd 8 = .ok (.ifCond .eq 33, 3) := by decide +kernel
theorem dX5_boundByEnd_11 : decode cX5_boundByEnd 11 = .ok (.aload_n 0, 1) := by decide +kernel
theorem dX5_boundByEnd_12 : decode cX5_boundByEnd 12 = .ok (.getfield 12, 3) := by decide +kernel
theorem dX5_boundByEnd_15 : decode cX5_boundByEnd 15 = .ok (.aload_n 0, 1) := by decide +kernel
theorem dX5_boundByEnd_16 : decode cX5_boundByEnd 16 = .ok (.getfield 45, 3) := by decide +kernel
theorem dX5_boundByEnd_19 : decode cX5_boundByEnd 19 = .ok (.getfield 60, 3) := by decide +kernel
theorem dX5_boundByEnd_22 : decode cX5_boundByEnd 22 = .ok (.iload_n 1, 1) := by decide +kernel
theorem dX5_boundByEnd_23 : decode cX5_boundByEnd 23 = .ok (.iaload, 1) := by decide +kernel
theorem dX5_boundByEnd_24 : decode cX5_boundByEnd 24 = .ok (.i2l, 1) := by decide +kernel
theorem dX5_boundByEnd_25 : decode cX5_boundByEnd 25 = .ok (.iload_n 2, 1) := by decide +kernel
theorem dX5_boundByEnd_26 : decode cX5_boundByEnd 26 = .ok (.i2l, 1) := by decide +kernel
theorem dX5_boundByEnd_27 : decode cX5_boundByEnd 27 = .ok (.lconst 0, 1) := by decide +kernel
theorem dX5_boundByEnd_28 : decode cX5_boundByEnd 28 = .ok (.aload_n 0, 1) := by decide +kernel
theorem dX5_boundByEnd_29 : decode cX5_boundByEnd 29 = .ok (.getfield 45, 3) := by decide +kernel
theorem dX5_boundByEnd_32 : decode cX5_boundByEnd 32 = .ok (.getfield 63, 3) := by decide +kernel
theorem dX5_boundByEnd_35 : decode cX5_boundByEnd 35 = .ok (.iload_n 1, 1) := by decide +kernel
theorem dX5_boundByEnd_36 : decode cX5_boundByEnd 36 = .ok (.iaload, 1) := by decide +kernel
theorem dX5_boundByEnd_37 : decode cX5_boundByEnd 37 = .ok (.i2l, 1) := by decide +kernel
theorem dX5_boundByEnd_38 : decode cX5_boundByEnd 38 = .ok (.invokevirtual 166, 3) := by decide +kernel
theorem dX5_boundByEnd_41 : decode cX5_boundByEnd 41 = .ok (.return_, 1) := by decide +kernel
theorem dX5_boundBySlack_0 : decode cX5_boundBySlack 0 = .ok (.aload_n 0, 1) := by decide +kernel
theorem dX5_boundBySlack_1 : decode cX5_boundBySlack 1 = .ok (.getfield 12, 3) := by decide +kernel
theorem dX5_boundBySlack_4 : decode cX5_boundBySlack 4 = .ok (.iload_n 1, 1) := by decide +kernel
theorem dX5_boundBySlack_5 : decode cX5_boundBySlack 5 = .ok (.i2l, 1) := by decide +kernel
theorem dX5_boundBySlack_6 : decode cX5_boundBySlack 6 = .ok (.iload_n 2, 1) := by decide +kernel
theorem dX5_boundBySlack_7 : decode cX5_boundBySlack 7 = .ok (.i2l, 1) := by decide +kernel
theorem dX5_boundBySlack_8 : decode cX5_boundBySlack 8 = .ok (.aload_n 0, 1) := by decide +kernel
theorem dX5_boundBySlack_9 : decode cX5_boundBySlack 9 = .ok (.getfield 35, 3) := by decide +kernel
theorem dX5_boundBySlack_12 : decode cX5_boundBySlack 12 = .ok (.getfield 170, 3) := by decide +kernel
theorem dX5_boundBySlack_15 : decode cX5_boundBySlack 15 = .ok (.iload_n 3, 1) := by decide +kernel
theorem dX5_boundBySlack_16 : decode cX5_boundBySlack 16 = .ok (.iaload, 1) := by decide +kernel
theorem dX5_boundBySlack_17 : decode cX5_boundBySlack 17 = .ok (.ineg, 1) := by decide +kernel
theorem dX5_boundBySlack_18 : decode cX5_boundBySlack 18 = .ok (.i2l, 1) := by decide +kernel
theorem dX5_boundBySlack_19 : decode cX5_boundBySlack 19 = .ok (.aload_n 0, 1) := by decide +kernel
theorem dX5_boundBySlack_20 : decode cX5_boundBySlack 20 = .ok (.getfield 35, 3) := by decide +kernel
theorem dX5_boundBySlack_23 : decode cX5_boundBySlack 23 = .ok (.getfield 170, 3) := by decide +kernel
theorem dX5_boundBySlack_26 : decode cX5_boundBySlack 26 = .ok (.iload_n 3, 1) := by decide +kernel
theorem dX5_boundBySlack_27 : decode cX5_boundBySlack 27 = .ok (.iaload, 1) := by decide +kernel
theorem dX5_boundBySlack_28 : decode cX5_boundBySlack 28 = .ok (.i2l, 1) := by decide +kernel
theorem dX5_boundBySlack_29 : decode cX5_boundBySlack 29 = .ok (.invokevirtual 166, 3) := by decide +kernel
theorem dX5_boundBySlack_32 : decode cX5_boundBySlack 32 = .ok (.return_, 1) := by decide +kernel
theorem dX5_listGain_0 : decode cX5_listGain 0 = .ok (.aload_n 0, 1) := by decide +kernel
theorem dX5_listGain_1 : decode cX5_listGain 1 = .ok (.getfield 45, 3) := by decide +kernel
theorem dX5_listGain_4 : decode cX5_listGain 4 = .ok (.aload_n 0, 1) := by decide +kernel
theorem dX5_listGain_5 : decode cX5_listGain 5 = .ok (.getfield 22, 3) := by decide +kernel
theorem dX5_listGain_8 : decode cX5_listGain 8 = .ok (.iload_n 1, 1) := by decide +kernel
theorem dX5_listGain_9 : decode cX5_listGain 9 = .ok (.iaload, 1) := by decide +kernel
theorem dX5_listGain_10 : decode cX5_listGain 10 = .ok (.invokevirtual 54, 3) := by decide +kernel
theorem dX5_listGain_13 : decode cX5_listGain 13 = .ok (.ifCond .eq 20, 3) := by decide +kernel
theorem dX5_listGain_16 : decode cX5_listGain 16 = .ok (.aload_n 0, 1) := by decide +kernel
theorem dX5_listGain_17 : decode cX5_listGain 17 = .ok (.getfield 45, 3) := by decide +kernel
theorem dX5_listGain_20 : decode cX5_listGain 20 = .ok (.getfield 73, 3) := by decide +kernel
theorem dX5_listGain_23 : decode cX5_listGain 23 = .ok (.aload_n 0, 1) := by decide +kernel
theorem dX5_listGain_24 : decode cX5_listGain 24 = .ok (.getfield 22, 3) := by decide +kernel
theorem dX5_listGain_27 : decode cX5_listGain 27 = .ok (.iload_n 1, 1) := by decide +kernel
theorem dX5_listGain_28 : decode cX5_listGain 28 = .ok (.iaload, 1) := by decide +kernel
theorem dX5_listGain_29 : decode cX5_listGain 29 = .ok (.iaload, 1) := by decide +kernel
theorem dX5_listGain_30 : decode cX5_listGain 30 = .ok (.goto 4, 3) := by decide +kernel
theorem dX5_listGain_33 : decode cX5_listGain 33 = .ok (.iconst 0, 1) := by decide +kernel
theorem dX5_listGain_34 : decode cX5_listGain 34 = .ok (.aload_n 0, 1) := by decide +kernel
theorem dX5_listGain_35 : decode cX5_listGain 35 = .ok (.getfield 45, 3) := by decide +kernel
theorem dX5_listGain_38 : decode cX5_listGain 38 = .ok (.aload_n 0, 1) := by decide +kernel
theorem dX5_listGain_39 : decode cX5_listGain 39 = .ok (.getfield 18, 3) := by decide +kernel
theorem dX5_listGain_42 : decode cX5_listGain 42 = .ok (.iload_n 1, 1) := by decide +kernel
theorem dX5_listGain_43 : decode cX5_listGain 43 = .ok (.iaload, 1) := by decide +kernel
theorem dX5_listGain_44 : decode cX5_listGain 44 = .ok (.invokevirtual 54, 3) := by decide +kernel
theorem dX5_listGain_47 : decode cX5_listGain 47 = .ok (.ifCond .eq 20, 3) := by decide +kernel
theorem dX5_listGain_50 : decode cX5_listGain 50 = .ok (.aload_n 0, 1) := by decide +kernel
theorem dX5_listGain_51 : decode cX5_listGain 51 = .ok (.getfield 45, 3) := by decide +kernel
theorem dX5_listGain_54 : decode cX5_listGain 54 = .ok (.getfield 73, 3) := by decide +kernel
theorem dX5_listGain_57 : decode cX5_listGain 57 = .ok (.aload_n 0, 1) := by decide +kernel
theorem dX5_listGain_58 : decode cX5_listGain 58 = .ok (.getfield 18, 3) := by decide +kernel
theorem dX5_listGain_61 : decode cX5_listGain 61 = .ok (.iload_n 1, 1) := by decide +kernel
theorem dX5_listGain_62 : decode cX5_listGain 62 = .ok (.iaload, 1) := by decide +kernel
theorem dX5_listGain_63 : decode cX5_listGain 63 = .ok (.iaload, 1) := by decide +kernel
theorem dX5_listGain_64 : decode cX5_listGain 64 = .ok (.goto 4, 3) := by decide +kernel
theorem dX5_listGain_67 : decode cX5_listGain 67 = .ok (.iconst 0, 1) := by decide +kernel
theorem dX5_listGain_68 : decode cX5_listGain 68 = .ok (.isub, 1) := by decide +kernel
theorem dX5_listGain_69 : decode cX5_listGain 69 = .ok (.ireturn, 1) := by decide +kernel
theorem dX5_fewestOf_0 : decode cX5_fewestOf 0 = .ok (.aload_n 0, 1) := by decide +kernel
theorem dX5_fewestOf_1 : decode cX5_fewestOf 1 = .ok (.getfield 12, 3) := by decide +kernel
theorem dX5_fewestOf_4 : decode cX5_fewestOf 4 = .ok (.ldc2_w 137, 3) := by decide +kernel
theorem dX5_fewestOf_7 : decode cX5_fewestOf 7 = .ok (.ldc2_w 139, 3) := by decide +kernel
theorem dX5_fewestOf_10 : decode cX5_fewestOf 10 = .ok (.invokevirtual 141, 3) := by decide +kernel
theorem dX5_fewestOf_13 : decode cX5_fewestOf 13 = .ok (.aload_n 0, 1) := by decide +kernel
theorem dX5_fewestOf_14 : decode cX5_fewestOf 14 = .ok (.aload_n 0, 1) := by decide +kernel
theorem dX5_fewestOf_15 : decode cX5_fewestOf 15 = .ok (.getfield 18, 3) := by decide +kernel
theorem dX5_fewestOf_18 : decode cX5_fewestOf 18 = .ok (.iload_n 1, 1) := by decide +kernel
theorem dX5_fewestOf_19 : decode cX5_fewestOf 19 = .ok (.iaload, 1) := by decide +kernel
theorem dX5_fewestOf_20 : decode cX5_fewestOf 20 = .ok (.aload_n 0, 1) := by decide +kernel
theorem dX5_fewestOf_21 : decode cX5_fewestOf 21 = .ok (.getfield 25, 3) := by decide +kernel
theorem dX5_fewestOf_24 : decode cX5_fewestOf 24 = .ok (.iload_n 1, 1) := by decide +kernel
theorem dX5_fewestOf_25 : decode cX5_fewestOf 25 = .ok (.iaload, 1) := by decide +kernel
theorem dX5_fewestOf_26 : decode cX5_fewestOf 26 = .ok (.ineg, 1) := by decide +kernel
theorem dX5_fewestOf_27 : decode cX5_fewestOf 27 = .ok (.invokevirtual 145, 3) := by decide +kernel
theorem dX5_fewestOf_30 : decode cX5_fewestOf 30 = .ok (.aload_n 0, 1) := by decide +kernel
theorem dX5_fewestOf_31 : decode cX5_fewestOf 31 = .ok (.aload_n 0, 1) := by decide +kernel
theorem dX5_fewestOf_32 : decode cX5_fewestOf 32 = .ok (.getfield 22, 3) := by decide +kernel
theorem dX5_fewestOf_35 : decode cX5_fewestOf 35 = .ok (.iload_n 1, 1) := by decide +kernel
theorem dX5_fewestOf_36 : decode cX5_fewestOf 36 = .ok (.iaload, 1) := by decide +kernel
theorem dX5_fewestOf_37 : decode cX5_fewestOf 37 = .ok (.aload_n 0, 1) := by decide +kernel
theorem dX5_fewestOf_38 : decode cX5_fewestOf 38 = .ok (.getfield 25, 3) := by decide +kernel
theorem dX5_fewestOf_41 : decode cX5_fewestOf 41 = .ok (.iload_n 1, 1) := by decide +kernel
theorem dX5_fewestOf_42 : decode cX5_fewestOf 42 = .ok (.iaload, 1) := by decide +kernel
theorem dX5_fewestOf_43 : decode cX5_fewestOf 43 = .ok (.invokevirtual 145, 3) := by decide +kernel
theorem dX5_fewestOf_46 : decode cX5_fewestOf 46 = .ok (.aload_n 0, 1) := by decide +kernel
theorem dX5_fewestOf_47 : decode cX5_fewestOf 47 = .ok (.aload_n 0, 1) := by decide +kernel
theorem dX5_fewestOf_48 : decode cX5_fewestOf 48 = .ok (.getfield 87, 3) := by decide +kernel
theorem dX5_fewestOf_51 : decode cX5_fewestOf 51 = .ok (.aload_n 0, 1) := by decide +kernel
theorem dX5_fewestOf_52 : decode cX5_fewestOf 52 = .ok (.getfield 25, 3) := by decide +kernel
theorem dX5_fewestOf_55 : decode cX5_fewestOf 55 = .ok (.iload_n 1, 1) := by decide +kernel
theorem dX5_fewestOf_56 : decode cX5_fewestOf 56 = .ok (.iaload, 1) := by decide +kernel
theorem dX5_fewestOf_57 : decode cX5_fewestOf 57 = .ok (.aload_n 0, 1) := by decide +kernel
theorem dX5_fewestOf_58 : decode cX5_fewestOf 58 = .ok (.iload_n 1, 1) := by decide +kernel
theorem dX5_fewestOf_59 : decode cX5_fewestOf 59 = .ok (.invokevirtual 100, 3) := by decide +kernel
theorem dX5_fewestOf_62 : decode cX5_fewestOf 62 = .ok (.imul, 1) := by decide +kernel
theorem dX5_fewestOf_63 : decode cX5_fewestOf 63 = .ok (.iconst 0, 1) := by decide +kernel
theorem dX5_fewestOf_64 : decode cX5_fewestOf 64 = .ok (.invokevirtual 148, 3) := by decide +kernel
theorem dX5_fewestOf_67 : decode cX5_fewestOf 67 = .ok (.aload_n 0, 1) := by decide +kernel
theorem dX5_fewestOf_68 : decode cX5_fewestOf 68 = .ok (.aload_n 0, 1) := by decide +kernel
theorem dX5_fewestOf_69 : decode cX5_fewestOf 69 = .ok (.getfield 90, 3) := by decide +kernel
theorem dX5_fewestOf_72 : decode cX5_fewestOf 72 = .ok (.aload_n 0, 1) := by decide +kernel
theorem dX5_fewestOf_73 : decode cX5_fewestOf 73 = .ok (.getfield 25, 3) := by decide +kernel
theorem dX5_fewestOf_76 : decode cX5_fewestOf 76 = .ok (.iload_n 1, 1) := by decide +kernel
theorem dX5_fewestOf_77 : decode cX5_fewestOf 77 = .ok (.iaload, 1) := by decide +kernel
theorem dX5_fewestOf_78 : decode cX5_fewestOf 78 = .ok (.aload_n 0, 1) := by decide +kernel
theorem dX5_fewestOf_79 : decode cX5_fewestOf 79 = .ok (.iload_n 1, 1) := by decide +kernel
theorem dX5_fewestOf_80 : decode cX5_fewestOf 80 = .ok (.invokevirtual 103, 3) := by decide +kernel
theorem dX5_fewestOf_83 : decode cX5_fewestOf 83 = .ok (.imul, 1) := by decide +kernel
theorem dX5_fewestOf_84 : decode cX5_fewestOf 84 = .ok (.iconst 1, 1) := by decide +kernel
theorem dX5_fewestOf_85 : decode cX5_fewestOf 85 = .ok (.invokevirtual 148, 3) := by decide +kernel
theorem dX5_fewestOf_88 : decode cX5_fewestOf 88 = .ok (.aload_n 0, 1) := by decide +kernel
theorem dX5_fewestOf_89 : decode cX5_fewestOf 89 = .ok (.aload_n 0, 1) := by decide +kernel
theorem dX5_fewestOf_90 : decode cX5_fewestOf 90 = .ok (.getfield 131, 3) := by decide +kernel
theorem dX5_fewestOf_93 : decode cX5_fewestOf 93 = .ok (.aload_n 0, 1) := by decide +kernel
theorem dX5_fewestOf_94 : decode cX5_fewestOf 94 = .ok (.getfield 25, 3) := by decide +kernel
theorem dX5_fewestOf_97 : decode cX5_fewestOf 97 = .ok (.iload_n 1, 1) := by decide +kernel
theorem dX5_fewestOf_98 : decode cX5_fewestOf 98 = .ok (.iaload, 1) := by decide +kernel
theorem dX5_fewestOf_99 : decode cX5_fewestOf 99 = .ok (.aload_n 0, 1) := by decide +kernel
theorem dX5_fewestOf_100 : decode cX5_fewestOf 100 = .ok (.iload_n 1, 1) := by decide +kernel
theorem dX5_fewestOf_101 : decode cX5_fewestOf 101 = .ok (.invokevirtual 152, 3) := by decide +kernel
theorem dX5_fewestOf_104 : decode cX5_fewestOf 104 = .ok (.imul, 1) := by decide +kernel
theorem dX5_fewestOf_105 : decode cX5_fewestOf 105 = .ok (.iconst 2, 1) := by decide +kernel
theorem dX5_fewestOf_106 : decode cX5_fewestOf 106 = .ok (.invokevirtual 148, 3) := by decide +kernel
theorem dX5_fewestOf_109 : decode cX5_fewestOf 109 = .ok (.aload_n 0, 1) := by decide +kernel
theorem dX5_fewestOf_110 : decode cX5_fewestOf 110 = .ok (.getfield 12, 3) := by decide +kernel
theorem dX5_fewestOf_113 : decode cX5_fewestOf 113 = .ok (.invokevirtual 155, 3) := by decide +kernel
theorem dX5_fewestOf_116 : decode cX5_fewestOf 116 = .ok (.ifCond .eq 5, 3) := by decide +kernel
theorem dX5_fewestOf_119 : decode cX5_fewestOf 119 = .ok (.iconst 0, 1) := by decide +kernel
theorem dX5_fewestOf_120 : decode cX5_fewestOf 120 = .ok (.ireturn, 1) := by decide +kernel
theorem dX5_fewestOf_121 : decode cX5_fewestOf 121 = .ok (.aload_n 0, 1) := by decide +kernel
theorem dX5_fewestOf_122 : decode cX5_fewestOf 122 = .ok (.getfield 12, 3) := by decide +kernel
theorem dX5_fewestOf_125 : decode cX5_fewestOf 125 = .ok (.getfield 159, 3) := by decide +kernel
theorem dX5_fewestOf_128 : decode cX5_fewestOf 128 = .ok (.lconst 0, 1) := by decide +kernel
theorem dX5_fewestOf_129 : decode cX5_fewestOf 129 = .ok (.lcmp, 1) := by decide +kernel
theorem dX5_fewestOf_130 : decode cX5_fewestOf 130 = .ok (.ifCond .le 13, 3) := by decide +kernel
theorem dX5_fewestOf_133 : decode cX5_fewestOf 133 = .ok (.aload_n 0, 1) := by decide +kernel
theorem dX5_fewestOf_134 : decode cX5_fewestOf 134 = .ok (.getfield 12, 3) := by decide +kernel
theorem dX5_fewestOf_137 : decode cX5_fewestOf 137 = .ok (.getfield 159, 3) := by decide +kernel
theorem dX5_fewestOf_140 : decode cX5_fewestOf 140 = .ok (.goto 10, 3) := by decide +kernel
theorem dX5_fewestOf_143 : decode cX5_fewestOf 143 = .ok (.aload_n 0, 1) := by decide +kernel
theorem dX5_fewestOf_144 : decode cX5_fewestOf 144 = .ok (.getfield 12, 3) := by decide +kernel
theorem dX5_fewestOf_147 : decode cX5_fewestOf 147 = .ok (.getfield 163, 3) := by decide +kernel
theorem dX5_fewestOf_150 : decode cX5_fewestOf 150 = .ok (.l2i, 1) := by decide +kernel
theorem dX5_fewestOf_151 : decode cX5_fewestOf 151 = .ok (.ireturn, 1) := by decide +kernel
theorem dX5_considerFirst_0 : decode cX5_considerFirst 0 = .ok (.iload_n 2, 1) := by decide +kernel
theorem dX5_considerFirst_1 : decode cX5_considerFirst 1 = .ok (.invokestatic 106, 3) := by decide +kernel
theorem dX5_considerFirst_4 : decode cX5_considerFirst 4 = .ok (.istore 5, 2) := by decide +kernel
theorem dX5_considerFirst_6 : decode cX5_considerFirst 6 = .ok (.aload_n 0, 1) := by decide +kernel
theorem dX5_considerFirst_7 : decode cX5_considerFirst 7 = .ok (.getfield 35, 3) := by decide +kernel
theorem dX5_considerFirst_10 : decode cX5_considerFirst 10 = .ok (.iload_n 3, 1) := by decide +kernel
theorem dX5_considerFirst_11 : decode cX5_considerFirst 11 = .ok (.invokevirtual 122, 3) := by decide +kernel
theorem dX5_considerFirst_14 : decode cX5_considerFirst 14 = .ok (.ifCond .eq 12, 3) := by decide +kernel
theorem dX5_considerFirst_17 : decode cX5_considerFirst 17 = .ok (.aload_n 0, 1) := by decide +kernel
theorem dX5_considerFirst_18 : decode cX5_considerFirst 18 = .ok (.iload_n 1, 1) := by decide +kernel
theorem dX5_considerFirst_19 : decode cX5_considerFirst 19 = .ok (.iload_n 2, 1) := by decide +kernel
theorem dX5_considerFirst_20 : decode cX5_considerFirst 20 = .ok (.iconst (-1), 1) := by decide +kernel
theorem dX5_considerFirst_21 : decode cX5_considerFirst 21 = .ok (.iconst 0, 1) := by decide +kernel
theorem dX5_considerFirst_22 : decode cX5_considerFirst 22 = .ok (.invokevirtual 125, 3) := by decide +kernel
theorem dX5_considerFirst_25 : decode cX5_considerFirst 25 = .ok (.return_, 1) := by decide +kernel
theorem dX5_considerFirst_26 : decode cX5_considerFirst 26 = .ok (.aload_n 0, 1) := by decide +kernel
theorem dX5_considerFirst_27 : decode cX5_considerFirst 27 = .ok (.aload_n 0, 1) := by decide +kernel
theorem dX5_considerFirst_28 : decode cX5_considerFirst 28 = .ok (.getfield 35, 3) := by decide +kernel
theorem dX5_considerFirst_31 : decode cX5_considerFirst 31 = .ok (.iload_n 3, 1) := by decide +kernel
theorem dX5_considerFirst_32 : decode cX5_considerFirst 32 = .ok (.invokevirtual 76, 3) := by decide +kernel
theorem dX5_considerFirst_35 : decode cX5_considerFirst 35 = .ok (.putfield 87, 3) := by decide +kernel
theorem dX5_considerFirst_38 : decode cX5_considerFirst 38 = .ok (.aload_n 0, 1) := by decide +kernel
theorem dX5_considerFirst_39 : decode cX5_considerFirst 39 = .ok (.aload_n 0, 1) := by decide +kernel
theorem dX5_considerFirst_40 : decode cX5_considerFirst 40 = .ok (.getfield 35, 3) := by decide +kernel
theorem dX5_considerFirst_43 : decode cX5_considerFirst 43 = .ok (.invokevirtual 80, 3) := by decide +kernel
theorem dX5_considerFirst_46 : decode cX5_considerFirst 46 = .ok (.putfield 90, 3) := by decide +kernel
theorem dX5_considerFirst_49 : decode cX5_considerFirst 49 = .ok (.aload_n 0, 1) := by decide +kernel
theorem dX5_considerFirst_50 : decode cX5_considerFirst 50 = .ok (.aload_n 0, 1) := by decide +kernel
theorem dX5_considerFirst_51 : decode cX5_considerFirst 51 = .ok (.getfield 35, 3) := by decide +kernel
theorem dX5_considerFirst_54 : decode cX5_considerFirst 54 = .ok (.invokevirtual 128, 3) := by decide +kernel
theorem dX5_considerFirst_57 : decode cX5_considerFirst 57 = .ok (.putfield 131, 3) := by decide +kernel
theorem dX5_considerFirst_60 : decode cX5_considerFirst 60 = .ok (.iconst 0, 1) := by decide +kernel
theorem dX5_considerFirst_61 : decode cX5_considerFirst 61 = .ok (.istore 6, 2) := by decide +kernel
theorem dX5_considerFirst_63 : decode cX5_considerFirst 63 = .ok (.iload 6, 2) := by decide +kernel
theorem dX5_considerFirst_65 : decode cX5_considerFirst 65 = .ok (.aload_n 0, 1) := by decide +kernel
theorem dX5_considerFirst_66 : decode cX5_considerFirst 66 = .ok (.getfield 46, 3) := by decide +kernel
theorem dX5_considerFirst_69 : decode cX5_considerFirst 69 = .ok (.if_icmp .ge 68, 3) := by decide +kernel
theorem dX5_considerFirst_72 : decode cX5_considerFirst 72 = .ok (.iload 6, 2) := by decide +kernel
theorem dX5_considerFirst_74 : decode cX5_considerFirst 74 = .ok (.iload_n 1, 1) := by decide +kernel
theorem dX5_considerFirst_75 : decode cX5_considerFirst 75 = .ok (.if_icmp .eq 56, 3) := by decide +kernel
theorem dX5_considerFirst_78 : decode cX5_considerFirst 78 = .ok (.aload_n 0, 1) := by decide +kernel
theorem dX5_considerFirst_79 : decode cX5_considerFirst 79 = .ok (.getfield 28, 3) := by decide +kernel
theorem dX5_considerFirst_82 : decode cX5_considerFirst 82 = .ok (.iload 6, 2) := by decide +kernel
theorem dX5_considerFirst_84 : decode cX5_considerFirst 84 = .ok (.baload, 1) := by decide +kernel
theorem dX5_considerFirst_85 : decode cX5_considerFirst 85 = .ok (.ifCond .ne 8, 3) := by decide +kernel
theorem dX5_considerFirst_88 : decode cX5_considerFirst 88 = .ok (.iload 4, 2) := by decide +kernel
theorem dX5_considerFirst_90 : decode cX5_considerFirst 90 = .ok (.ifCond .ne 41, 3) := by decide +kernel
theorem dX5_considerFirst_93 : decode cX5_considerFirst 93 = .ok (.aload_n 0, 1) := by decide +kernel
theorem dX5_considerFirst_94 : decode cX5_considerFirst 94 = .ok (.iload 6, 2) := by decide +kernel
theorem dX5_considerFirst_96 : decode cX5_considerFirst 96 = .ok (.invokevirtual 134, 3) := by decide +kernel
theorem dX5_considerFirst_99 : decode cX5_considerFirst 99 = .ok (.istore 7, 2) := by decide +kernel
theorem dX5_considerFirst_101 : decode cX5_considerFirst 101 = .ok (.iload 7, 2) := by decide +kernel
theorem dX5_considerFirst_103 : decode cX5_considerFirst 103 = .ok (.ifCond .eq 28, 3) := by decide +kernel
theorem dX5_considerFirst_106 : decode cX5_considerFirst 106 = .ok (.iload 5, 2) := by decide +kernel
theorem dX5_considerFirst_108 : decode cX5_considerFirst 108 = .ok (.iload 7, 2) := by decide +kernel
theorem dX5_considerFirst_110 : decode cX5_considerFirst 110 = .ok (.invokestatic 106, 3) := by decide +kernel
theorem dX5_considerFirst_113 : decode cX5_considerFirst 113 = .ok (.iadd, 1) := by decide +kernel
theorem dX5_considerFirst_114 : decode cX5_considerFirst 114 = .ok (.aload_n 0, 1) := by decide +kernel
theorem dX5_considerFirst_115 : decode cX5_considerFirst 115 = .ok (.getfield 84, 3) := by decide +kernel
theorem dX5_considerFirst_118 : decode cX5_considerFirst 118 = .ok (.if_icmp .ge 13, 3) := by decide +kernel
theorem dX5_considerFirst_121 : decode cX5_considerFirst 121 = .ok (.aload_n 0, 1) := by decide +kernel
theorem dX5_considerFirst_122 : decode cX5_considerFirst 122 = .ok (.iload_n 1, 1) := by decide +kernel
theorem dX5_considerFirst_123 : decode cX5_considerFirst 123 = .ok (.iload_n 2, 1) := by decide +kernel
theorem dX5_considerFirst_124 : decode cX5_considerFirst 124 = .ok (.iload 6, 2) := by decide +kernel
theorem dX5_considerFirst_126 : decode cX5_considerFirst 126 = .ok (.iload 7, 2) := by decide +kernel
theorem dX5_considerFirst_128 : decode cX5_considerFirst 128 = .ok (.invokevirtual 125, 3) := by decide +kernel
theorem dX5_considerFirst_131 : decode cX5_considerFirst 131 = .ok (.iinc 6 1, 3) := by decide +kernel
theorem dX5_considerFirst_134 : decode cX5_considerFirst 134 = .ok (.goto (-71), 3) := by decide +kernel
theorem dX5_considerFirst_137 : decode cX5_considerFirst 137 = .ok (.return_, 1) := by decide +kernel
theorem dX5_findTrim_0 : decode cX5_findTrim 0 = .ok (.aload_n 0, 1) := by decide +kernel
theorem dX5_findTrim_1 : decode cX5_findTrim 1 = .ok (.iconst 0, 1) := by decide +kernel
theorem dX5_findTrim_2 : decode cX5_findTrim 2 = .ok (.putfield 111, 3) := by decide +kernel
theorem dX5_findTrim_5 : decode cX5_findTrim 5 = .ok (.aload_n 0, 1) := by decide +kernel
theorem dX5_findTrim_6 : decode cX5_findTrim 6 = .ok (.sipush 199, 3) := by decide +kernel
theorem dX5_findTrim_9 : decode cX5_findTrim 9 = .ok (.putfield 84, 3) := by decide +kernel
theorem dX5_findTrim_12 : decode cX5_findTrim 12 = .ok (.iconst 0, 1) := by decide +kernel
theorem dX5_findTrim_13 : decode cX5_findTrim 13 = .ok (.istore_n 3, 1) := by decide +kernel
theorem dX5_findTrim_14 : decode cX5_findTrim 14 = .ok (.iload_n 3, 1) := by decide +kernel
theorem dX5_findTrim_15 : decode cX5_findTrim 15 = .ok (.aload_n 0, 1) := by decide +kernel
theorem dX5_findTrim_16 : decode cX5_findTrim 16 = .ok (.getfield 46, 3) := by decide +kernel
theorem dX5_findTrim_19 : decode cX5_findTrim 19 = .ok (.if_icmp .ge 102, 3) := by decide +kernel
theorem dX5_findTrim_22 : decode cX5_findTrim 22 = .ok (.bipush (-99), 2) := by decide +kernel
theorem dX5_findTrim_24 : decode cX5_findTrim 24 = .ok (.istore 4, 2) := by decide +kernel
theorem dX5_findTrim_26 : decode cX5_findTrim 26 = .ok (.iload 4, 2) := by decide +kernel
theorem dX5_findTrim_28 : decode cX5_findTrim 28 = .ok (.bipush 99, 2) := by decide +kernel
theorem dX5_findTrim_30 : decode cX5_findTrim 30 = .ok (.if_icmp .gt 85, 3) := by decide +kernel
theorem dX5_findTrim_33 : decode cX5_findTrim 33 = .ok (.iload 4, 2) := by decide +kernel
theorem dX5_findTrim_35 : decode cX5_findTrim 35 = .ok (.ifCond .eq 19, 3) := by decide +kernel
theorem dX5_findTrim_38 : decode cX5_findTrim 38 = .ok (.iload 4, 2) := by decide +kernel
theorem dX5_findTrim_40 : decode cX5_findTrim 40 = .ok (.invokestatic 106, 3) := by decide +kernel
theorem dX5_findTrim_43 : decode cX5_findTrim 43 = .ok (.aload_n 0, 1) := by decide +kernel
theorem dX5_findTrim_44 : decode cX5_findTrim 44 = .ok (.getfield 84, 3) := by decide +kernel
theorem dX5_findTrim_47 : decode cX5_findTrim 47 = .ok (.if_icmp .ge 7, 3) := by decide +kernel
theorem dX5_findTrim_50 : decode cX5_findTrim 50 = .ok (.iconst 1, 1) := by decide +kernel
theorem dX5_findTrim_51 : decode cX5_findTrim 51 = .ok (.goto 4, 3) := by decide +kernel
theorem dX5_findTrim_54 : decode cX5_findTrim 54 = .ok (.iconst 0, 1) := by decide +kernel
theorem dX5_findTrim_55 : decode cX5_findTrim 55 = .ok (.istore 5, 2) := by decide +kernel
theorem dX5_findTrim_57 : decode cX5_findTrim 57 = .ok (.iload 5, 2) := by decide +kernel
theorem dX5_findTrim_59 : decode cX5_findTrim 59 = .ok (.ifCond .eq 50, 3) := by decide +kernel
theorem dX5_findTrim_62 : decode cX5_findTrim 62 = .ok (.aload_n 0, 1) := by decide +kernel
theorem dX5_findTrim_63 : decode cX5_findTrim 63 = .ok (.getfield 28, 3) := by decide +kernel
theorem dX5_findTrim_66 : decode cX5_findTrim 66 = .ok (.iload_n 3, 1) := by decide +kernel
theorem dX5_findTrim_67 : decode cX5_findTrim 67 = .ok (.baload, 1) := by decide +kernel
theorem dX5_findTrim_68 : decode cX5_findTrim 68 = .ok (.ifCond .ne 7, 3) := by decide +kernel
theorem dX5_findTrim_71 : decode cX5_findTrim 71 = .ok (.iload_n 2, 1) := by decide +kernel
theorem dX5_findTrim_72 : decode cX5_findTrim 72 = .ok (.ifCond .ne 37, 3) := by decide +kernel
theorem dX5_findTrim_75 : decode cX5_findTrim 75 = .ok (.aload_n 0, 1) := by decide +kernel
theorem dX5_findTrim_76 : decode cX5_findTrim 76 = .ok (.iload_n 3, 1) := by decide +kernel
theorem dX5_findTrim_77 : decode cX5_findTrim 77 = .ok (.iload 4, 2) := by decide +kernel
theorem dX5_findTrim_79 : decode cX5_findTrim 79 = .ok (.invokevirtual 97, 3) := by decide +kernel
theorem dX5_findTrim_82 : decode cX5_findTrim 82 = .ok (.ifCond .eq 27, 3) := by decide +kernel
theorem dX5_findTrim_85 : decode cX5_findTrim 85 = .ok (.aload_n 0, 1) := by decide +kernel
theorem dX5_findTrim_86 : decode cX5_findTrim 86 = .ok (.iload_n 3, 1) := by decide +kernel
theorem dX5_findTrim_87 : decode cX5_findTrim 87 = .ok (.iload 4, 2) := by decide +kernel
theorem dX5_findTrim_89 : decode cX5_findTrim 89 = .ok (.invokevirtual 114, 3) := by decide +kernel
theorem dX5_findTrim_92 : decode cX5_findTrim 92 = .ok (.aload_n 0, 1) := by decide +kernel
theorem dX5_findTrim_93 : decode cX5_findTrim 93 = .ok (.iload_n 3, 1) := by decide +kernel
theorem dX5_findTrim_94 : decode cX5_findTrim 94 = .ok (.iload 4, 2) := by decide +kernel
theorem dX5_findTrim_96 : decode cX5_findTrim 96 = .ok (.iload_n 1, 1) := by decide +kernel
theorem dX5_findTrim_97 : decode cX5_findTrim 97 = .ok (.iload_n 2, 1) := by decide +kernel
theorem dX5_findTrim_98 : decode cX5_findTrim 98 = .ok (.invokevirtual 118, 3) := by decide +kernel
theorem dX5_findTrim_101 : decode cX5_findTrim 101 = .ok (.aload_n 0, 1) := by decide +kernel
theorem dX5_findTrim_102 : decode cX5_findTrim 102 = .ok (.iload_n 3, 1) := by decide +kernel
theorem dX5_findTrim_103 : decode cX5_findTrim 103 = .ok (.iload 4, 2) := by decide +kernel
theorem dX5_findTrim_105 : decode cX5_findTrim 105 = .ok (.ineg, 1) := by decide +kernel
theorem dX5_findTrim_106 : decode cX5_findTrim 106 = .ok (.invokevirtual 114, 3) := by decide +kernel
theorem dX5_findTrim_109 : decode cX5_findTrim 109 = .ok (.iinc 4 1, 3) := by decide +kernel
theorem dX5_findTrim_112 : decode cX5_findTrim 112 = .ok (.goto (-86), 3) := by decide +kernel
theorem dX5_findTrim_115 : decode cX5_findTrim 115 = .ok (.iinc 3 1, 3) := by decide +kernel
theorem dX5_findTrim_118 : decode cX5_findTrim 118 = .ok (.goto (-104), 3) := by decide +kernel
theorem dX5_findTrim_121 : decode cX5_findTrim 121 = .ok (.return_, 1) := by decide +kernel
noncomputable def fX5_add (p1 : Int32) (p2 : Int32) (p3 : Int32) (p4 : Int32) (h : HS) : Option (Int32 × HS) := if (gI h 6 3) < (6 : Int32) then (ck (inb (gI h 6 3) 6) (nm (pI h 40 (gI h 6 3).toNatClampNeg p1) (fun h2 => ck (inb (gI h2 6 3) 6) (nm (pI h2 41 (gI h2 6 3).toNatClampNeg p2) (fun h4 => ck (inb (gI h4 6 3) 6) (nm (pI h4 42 (gI h4 6 3).toNatClampNeg p3) (fun h6 => ck (inb (gI h6 6 3) 6) (nm (pI h6 43 (gI h6 6 3).toNatClampNeg (vp_nar .boolean p4)) (fun h8 => nm (pI h8 6 3 ((gI h8 6 3) + (1 : Int32))) (fun h10 => some (((gI h10 6 3) - (1 : Int32)), h10))))))))))) else (some ((-1 : Int32), h))
set_option maxRecDepth 100000 in
theorem tX5_add {p1 : Int32} {p2 : Int32} {p3 : Int32} {p4 : Int32} {r : Int32} {h h0 : HS} (H : fX5_add p1 p2 p3 p4 h = some (r, h0)) : Cn skC yX5_add cX5_add 5 (some .int) 0 [.ref 6, .int p1, .int p2, .int p3, .int p4] h (some (.int r)) h0 := by
  refine Cn_of (L := [some (.ref 6), some (.int p1), some (.int p2), some (.int p3), some (.int p4)]) (by decide +kernel) (by simp [lg_sl, Value.category]) (fun ad => by simp [lg_sl, tv, Value.category]) (⟨rfl, ⟨rfl, ⟨rfl, ⟨rfl, ⟨rfl, trivial⟩⟩⟩⟩⟩) ?_
  unfold fX5_add at H
  refine j_aload_n (pc := 0) dX5_add_0 rfl ?_
  refine j_getI (pc := 1) dX5_add_1 flX5_46 rfl ?_
  refine j_bipush (pc := 4) (v := 6) dX5_add_4 (by decide) ?_
  refine j_icmp_lt (pc := 6) (tgt := 11) dX5_add_6 (by decide) (fun c1 => ?_) (fun c1 => ?_)
  · rw [if_pos c1] at H
    refine j_aload_n (pc := 11) dX5_add_11 rfl ?_
    refine j_getR (pc := 12) (b := 40) dX5_add_12 flX5_18 rfl ?_
    refine j_aload_n (pc := 15) dX5_add_15 rfl ?_
    refine j_getI (pc := 16) dX5_add_16 flX5_46 rfl ?_
    refine j_iload_n (pc := 19) dX5_add_19 rfl ?_
    obtain ⟨b3, H⟩ := ck_x H
    obtain ⟨h2, eh2, H⟩ := nm_x H
    refine j_iastore (pc := 20) dX5_add_20 rfl b3 rfl h2 eh2 ?_
    refine j_aload_n (pc := 21) dX5_add_21 rfl ?_
    refine j_getR (pc := 22) (b := 41) dX5_add_22 flX5_22 rfl ?_
    refine j_aload_n (pc := 25) dX5_add_25 rfl ?_
    refine j_getI (pc := 26) dX5_add_26 flX5_46 rfl ?_
    refine j_iload_n (pc := 29) dX5_add_29 rfl ?_
    obtain ⟨b5, H⟩ := ck_x H
    obtain ⟨h4, eh4, H⟩ := nm_x H
    refine j_iastore (pc := 30) dX5_add_30 rfl b5 rfl h4 eh4 ?_
    refine j_aload_n (pc := 31) dX5_add_31 rfl ?_
    refine j_getR (pc := 32) (b := 42) dX5_add_32 flX5_25 rfl ?_
    refine j_aload_n (pc := 35) dX5_add_35 rfl ?_
    refine j_getI (pc := 36) dX5_add_36 flX5_46 rfl ?_
    refine j_iload_n (pc := 39) dX5_add_39 rfl ?_
    obtain ⟨b7, H⟩ := ck_x H
    obtain ⟨h6, eh6, H⟩ := nm_x H
    refine j_iastore (pc := 40) dX5_add_40 rfl b7 rfl h6 eh6 ?_
    refine j_aload_n (pc := 41) dX5_add_41 rfl ?_
    refine j_getR (pc := 42) (b := 43) dX5_add_42 flX5_28 rfl ?_
    refine j_aload_n (pc := 45) dX5_add_45 rfl ?_
    refine j_getI (pc := 46) dX5_add_46 flX5_46 rfl ?_
    refine j_iload (pc := 49) dX5_add_49 rfl ?_
    obtain ⟨b9, H⟩ := ck_x H
    obtain ⟨h8, eh8, H⟩ := nm_x H
    refine j_zastore (pc := 51) dX5_add_51 rfl b9 rfl h8 eh8 ?_
    refine j_aload_n (pc := 52) dX5_add_52 rfl ?_
    refine j_dup (pc := 53) dX5_add_53 rfl ?_
    refine j_getI (pc := 54) dX5_add_54 flX5_46 rfl ?_
    refine j_iconst (pc := 57) (v := 1) dX5_add_57 (by decide) ?_
    refine j_iadd (pc := 58) dX5_add_58 ?_
    obtain ⟨h10, eh10, H⟩ := nm_x H
    refine j_putI (pc := 59) dX5_add_59 fpX5_46 rfl h10 eh10 ?_
    refine j_aload_n (pc := 62) dX5_add_62 rfl ?_
    refine j_getI (pc := 63) dX5_add_63 flX5_46 rfl ?_
    refine j_iconst (pc := 66) (v := 1) dX5_add_66 (by decide) ?_
    refine j_isub (pc := 67) dX5_add_67 ?_
    exact j_ireturn (pc := 68) dX5_add_68 rfl (ri_1 H) (ri_2 H)
  · rw [if_neg c1] at H
    refine j_iconst (pc := 9) (v := -1) dX5_add_9 (by decide) ?_
    exact j_ireturn (pc := 10) dX5_add_10 rfl (ri_1 H) (ri_2 H)

noncomputable def fX5_there (p1 : Int32) (h : HS) : Option (Int32 × HS) := if p1 < 0 then (some ((0 : Int32), h)) else (if (gI h 6 3) ≤ p1 then (some ((0 : Int32), h)) else (some ((1 : Int32), h)))
set_option maxRecDepth 100000 in
theorem tX5_there {p1 : Int32} {r : Int32} {h h0 : HS} (H : fX5_there p1 h = some (r, h0)) : Cn skC yX5_there cX5_there 2 (some .boolean) 0 [.ref 6, .int p1] h (some (.int r)) h0 := by
  refine Cn_of (L := [some (.ref 6), some (.int p1)]) (by decide +kernel) (by simp [lg_sl, Value.category]) (fun ad => by simp [lg_sl, tv, Value.category]) (⟨rfl, ⟨rfl, trivial⟩⟩) ?_
  unfold fX5_there at H
  refine j_iload_n (pc := 0) dX5_there_0 rfl ?_
  refine j_if_lt (pc := 1) (tgt := 16) dX5_there_1 (by decide) (fun c1 => ?_) (fun c1 => ?_)
  · rw [if_pos c1] at H
    refine j_iconst (pc := 16) (v := 0) dX5_there_16 (by decide) ?_
    exact j_zreturn (pc := 17) dX5_there_17 rfl (rz0 H) (ri_2 H)
  · rw [if_neg c1] at H
    refine j_iload_n (pc := 4) dX5_there_4 rfl ?_
    refine j_aload_n (pc := 5) dX5_there_5 rfl ?_
    refine j_getI (pc := 6) dX5_there_6 flX5_46 rfl ?_
    refine j_icmp_ge (pc := 9) (tgt := 16) dX5_there_9 (by decide) (fun c2 => ?_) (fun c2 => ?_)
    · rw [if_pos c2] at H
      refine j_iconst (pc := 16) (v := 0) dX5_there_16 (by decide) ?_
      exact j_zreturn (pc := 17) dX5_there_17 rfl (rz0 H) (ri_2 H)
    · rw [if_neg c2] at H
      refine j_iconst (pc := 12) (v := 1) dX5_there_12 (by decide) ?_
      refine j_goto (pc := 13) (tgt := 17) dX5_there_13 (by decide) ?_
      exact j_zreturn (pc := 17) dX5_there_17 rfl (rz1 H) (ri_2 H)

noncomputable def fX5_takes_38 (h : HS) : Option (Int32 × HS) := some ((1 : Int32), h)
set_option maxRecDepth 100000 in
theorem jX5_takes_38 {r : Int32} {h0 : HS} (h : HS) (H : fX5_takes_38 h = some (r, h0)) : Jx skC RX5 cX5_takes 3 (some .boolean) 1 (some (.int r)) h0 38 [none, none, none] [] h := by
  unfold fX5_takes_38 at H
  refine j_iconst (pc := 38) (v := 1) dX5_takes_38 (by decide) ?_
  refine j_goto (pc := 39) (tgt := 43) dX5_takes_39 (by decide) ?_
  exact j_zreturn (pc := 43) dX5_takes_43 rfl (rz1 H) (ri_2 H)
noncomputable def fX5_takes (p1 : Int32) (p2 : Int32) (h : HS) : Option (Int32 × HS) := bd (fX4_there p1 h) (fun r2 h1 => if r2 = 0 then (fX5_takes_38 h1) else (ck (inb p1 15) (ck (inb p1 15) (bd (fX11_between (((gI h1 30 p1.toNatClampNeg) + p2)) (0 : Int32) ((gI h1 29 p1.toNatClampNeg)) h1) (fun r7 h6 => if r7 = 0 then (some ((0 : Int32), h6)) else (fX5_takes_38 h6))))))
set_option maxRecDepth 100000 in
theorem tX5_takes {p1 : Int32} {p2 : Int32} {r : Int32} {h h0 : HS} (H : fX5_takes p1 p2 h = some (r, h0)) : Cn skC yX5_takes cX5_takes 3 (some .boolean) 1 [.ref 6, .int p1, .int p2] h (some (.int r)) h0 := by
  refine Cn_of (L := [some (.ref 6), some (.int p1), some (.int p2)]) (by decide +kernel) (by simp [lg_sl, Value.category]) (fun ad => by simp [lg_sl, tv, Value.category]) (⟨rfl, ⟨rfl, ⟨rfl, trivial⟩⟩⟩) ?_
  unfold fX5_takes at H
  refine j_aload_n (pc := 0) dX5_takes_0 rfl ?_
  refine j_getR (pc := 1) (b := 2) dX5_takes_1 flX5_45 rfl ?_
  refine j_iload_n (pc := 4) dX5_takes_4 rfl ?_
  obtain ⟨r2, h1, eh1, H⟩ := bd_x H
  refine j_callV (pc := 5) dX5_takes_5 mlX5_54 wyX4_there (tX4_there eh1) (by decide) rfl rfl rfl rfl (by simp [Value.category]) rfl ?_
  refine j_if_eq (pc := 8) (tgt := 38) dX5_takes_8 (by decide) (fun c3 => ?_) (fun c3 => ?_)
  · rw [if_pos c3] at H
    refine Jx.sub (L' := [none, none, none]) (trivial) ?_
    exact jX5_takes_38 h1 H
  · rw [if_neg c3] at H
    refine j_aload_n (pc := 11) dX5_takes_11 rfl ?_
    refine j_getR (pc := 12) (b := 2) dX5_takes_12 flX5_45 rfl ?_
    refine j_getR (pc := 15) (b := 30) dX5_takes_15 flX5_60 rfl ?_
    refine j_iload_n (pc := 18) dX5_takes_18 rfl ?_
    obtain ⟨b4, H⟩ := ck_x H
    refine j_iaload (pc := 19) dX5_takes_19 rfl b4 rfl ?_
    refine j_iload_n (pc := 20) dX5_takes_20 rfl ?_
    refine j_iadd (pc := 21) dX5_takes_21 ?_
    refine j_iconst (pc := 22) (v := 0) dX5_takes_22 (by decide) ?_
    refine j_aload_n (pc := 23) dX5_takes_23 rfl ?_
    refine j_getR (pc := 24) (b := 2) dX5_takes_24 flX5_45 rfl ?_
    refine j_getR (pc := 27) (b := 29) dX5_takes_27 flX5_63 rfl ?_
    refine j_iload_n (pc := 30) dX5_takes_30 rfl ?_
    obtain ⟨b5, H⟩ := ck_x H
    refine j_iaload (pc := 31) dX5_takes_31 rfl b5 rfl ?_
    obtain ⟨r7, h6, eh6, H⟩ := bd_x H
    refine j_callSN (pc := 32) dX5_takes_32 mlX5_66 wyX11_between (tX11_between eh6) (by decide) rfl (by simp [Value.category]) rfl ?_
    refine j_if_eq (pc := 35) (tgt := 42) dX5_takes_35 (by decide) (fun c8 => ?_) (fun c8 => ?_)
    · rw [if_pos c8] at H
      refine j_iconst (pc := 42) (v := 0) dX5_takes_42 (by decide) ?_
      exact j_zreturn (pc := 43) dX5_takes_43 rfl (rz0 H) (ri_2 H)
    · rw [if_neg c8] at H
      refine Jx.sub (L' := [none, none, none]) (trivial) ?_
      exact jX5_takes_38 h6 H

noncomputable def fX5_can (p1 : Int32) (p2 : Int32) (h : HS) : Option (Int32 × HS) := ck (inb p1 6) (nm ((p2 * (gI h 42 p1.toNatClampNeg))) (fun v3_2 => ck (inb p1 6) (bd (fX5_takes ((gI h 40 p1.toNatClampNeg)) ((-v3_2)) h) (fun r5 h4 => if r5 = 0 then (some ((0 : Int32), h4)) else (ck (inb p1 6) (bd (fX5_takes ((gI h4 41 p1.toNatClampNeg)) v3_2 h4) (fun r9 h8 => if r9 = 0 then (some ((0 : Int32), h8)) else (some ((1 : Int32), h8)))))))))
set_option maxRecDepth 100000 in
theorem tX5_can {p1 : Int32} {p2 : Int32} {r : Int32} {h h0 : HS} (H : fX5_can p1 p2 h = some (r, h0)) : Cn skC yX5_can cX5_can 4 (some .boolean) 2 [.ref 6, .int p1, .int p2] h (some (.int r)) h0 := by
  refine Cn_of (L := [some (.ref 6), some (.int p1), some (.int p2), none]) (by decide +kernel) (by simp [lg_sl, Value.category]) (fun ad => by simp [lg_sl, tv, Value.category]) (⟨rfl, ⟨rfl, ⟨rfl, trivial⟩⟩⟩) ?_
  unfold fX5_can at H
  refine j_iload_n (pc := 0) dX5_can_0 rfl ?_
  refine j_aload_n (pc := 1) dX5_can_1 rfl ?_
  refine j_getR (pc := 2) (b := 42) dX5_can_2 flX5_25 rfl ?_
  refine j_iload_n (pc := 5) dX5_can_5 rfl ?_
  obtain ⟨b1, H⟩ := ck_x H
  refine j_iaload (pc := 6) dX5_can_6 rfl b1 rfl ?_
  refine j_imul (pc := 7) dX5_can_7 ?_
  obtain ⟨v3_2, ev3_2, H⟩ := nm_x H
  refine j_topi ev3_2 ?_
  refine j_istore_n (pc := 8) (L' := [some (.ref 6), some (.int p1), some (.int p2), some (.int v3_2)]) dX5_can_8 (by decide) rfl ?_
  refine j_aload_n (pc := 9) dX5_can_9 rfl ?_
  refine j_aload_n (pc := 10) dX5_can_10 rfl ?_
  refine j_getR (pc := 11) (b := 40) dX5_can_11 flX5_18 rfl ?_
  refine j_iload_n (pc := 14) dX5_can_14 rfl ?_
  obtain ⟨b3, H⟩ := ck_x H
  refine j_iaload (pc := 15) dX5_can_15 rfl b3 rfl ?_
  refine j_iload_n (pc := 16) dX5_can_16 rfl ?_
  refine j_ineg (pc := 17) dX5_can_17 ?_
  obtain ⟨r5, h4, eh4, H⟩ := bd_x H
  refine j_callV (pc := 18) dX5_can_18 mlX5_50 wyX5_takes (tX5_takes eh4) (by decide) rfl rfl rfl rfl (by simp [Value.category]) rfl ?_
  refine j_if_eq (pc := 21) (tgt := 42) dX5_can_21 (by decide) (fun c6 => ?_) (fun c6 => ?_)
  · rw [if_pos c6] at H
    refine j_iconst (pc := 42) (v := 0) dX5_can_42 (by decide) ?_
    exact j_zreturn (pc := 43) dX5_can_43 rfl (rz0 H) (ri_2 H)
  · rw [if_neg c6] at H
    refine j_aload_n (pc := 24) dX5_can_24 rfl ?_
    refine j_aload_n (pc := 25) dX5_can_25 rfl ?_
    refine j_getR (pc := 26) (b := 41) dX5_can_26 flX5_22 rfl ?_
    refine j_iload_n (pc := 29) dX5_can_29 rfl ?_
    obtain ⟨b7, H⟩ := ck_x H
    refine j_iaload (pc := 30) dX5_can_30 rfl b7 rfl ?_
    refine j_iload_n (pc := 31) dX5_can_31 rfl ?_
    obtain ⟨r9, h8, eh8, H⟩ := bd_x H
    refine j_callV (pc := 32) dX5_can_32 mlX5_50 wyX5_takes (tX5_takes eh8) (by decide) rfl rfl rfl rfl (by simp [Value.category]) rfl ?_
    refine j_if_eq (pc := 35) (tgt := 42) dX5_can_35 (by decide) (fun c10 => ?_) (fun c10 => ?_)
    · rw [if_pos c10] at H
      refine j_iconst (pc := 42) (v := 0) dX5_can_42 (by decide) ?_
      exact j_zreturn (pc := 43) dX5_can_43 rfl (rz0 H) (ri_2 H)
    · rw [if_neg c10] at H
      refine j_iconst (pc := 38) (v := 1) dX5_can_38 (by decide) ?_
      refine j_goto (pc := 39) (tgt := 43) dX5_can_39 (by decide) ?_
      exact j_zreturn (pc := 43) dX5_can_43 rfl (rz1 H) (ri_2 H)

noncomputable def fX5_move_43 (v1 : Int32) (v3 : Int32) (h : HS) : Option HS := ck (inb v1 6) (bd (fX4_there ((gI h 41 v1.toNatClampNeg)) h) (fun r13 h12 => if r13 = 0 then (some h12) else (ck (inb v1 6) (ck (inb (gI h12 41 v1.toNatClampNeg) 15) (ck (inb (gI h12 41 v1.toNatClampNeg) 15) (nm (pI h12 30 (gI h12 41 v1.toNatClampNeg).toNatClampNeg ((gI h12 30 (gI h12 41 v1.toNatClampNeg).toNatClampNeg) + v3)) (fun h17 => some h17)))))))
set_option maxRecDepth 100000 in
theorem jX5_move_43 {h0 : HS} (v1 : Int32) (v3 : Int32) (h : HS) (H : fX5_move_43 v1 v3 h = some h0) : Jx skC RX5 cX5_move 4 none 1 none h0 43 [some (.ref 6), some (.int v1), none, some (.int v3)] [] h := by
  unfold fX5_move_43 at H
  refine j_aload_n (pc := 43) dX5_move_43 rfl ?_
  refine j_getR (pc := 44) (b := 2) dX5_move_44 flX5_45 rfl ?_
  refine j_aload_n (pc := 47) dX5_move_47 rfl ?_
  refine j_getR (pc := 48) (b := 41) dX5_move_48 flX5_22 rfl ?_
  refine j_iload_n (pc := 51) dX5_move_51 rfl ?_
  obtain ⟨b11, H⟩ := ck_x H
  refine j_iaload (pc := 52) dX5_move_52 rfl b11 rfl ?_
  obtain ⟨r13, h12, eh12, H⟩ := bd_x H
  refine j_callV (pc := 53) dX5_move_53 mlX5_54 wyX4_there (tX4_there eh12) (by decide) rfl rfl rfl rfl (by simp [Value.category]) rfl ?_
  refine j_if_eq (pc := 56) (tgt := 77) dX5_move_56 (by decide) (fun c14 => ?_) (fun c14 => ?_)
  · rw [if_pos c14] at H
    exact j_return (pc := 77) dX5_move_77 rfl rfl (rv_2 H)
  · rw [if_neg c14] at H
    refine j_aload_n (pc := 59) dX5_move_59 rfl ?_
    refine j_getR (pc := 60) (b := 2) dX5_move_60 flX5_45 rfl ?_
    refine j_getR (pc := 63) (b := 30) dX5_move_63 flX5_60 rfl ?_
    refine j_aload_n (pc := 66) dX5_move_66 rfl ?_
    refine j_getR (pc := 67) (b := 41) dX5_move_67 flX5_22 rfl ?_
    refine j_iload_n (pc := 70) dX5_move_70 rfl ?_
    obtain ⟨b15, H⟩ := ck_x H
    refine j_iaload (pc := 71) dX5_move_71 rfl b15 rfl ?_
    refine j_dup2 (pc := 72) dX5_move_72 rfl rfl ?_
    obtain ⟨b16, H⟩ := ck_x H
    refine j_iaload (pc := 73) dX5_move_73 rfl b16 rfl ?_
    refine j_iload_n (pc := 74) dX5_move_74 rfl ?_
    refine j_iadd (pc := 75) dX5_move_75 ?_
    obtain ⟨b18, H⟩ := ck_x H
    obtain ⟨h17, eh17, H⟩ := nm_x H
    refine j_iastore (pc := 76) dX5_move_76 rfl b18 rfl h17 eh17 ?_
    exact j_return (pc := 77) dX5_move_77 rfl rfl (rv_2 H)
noncomputable def fX5_move (p1 : Int32) (p2 : Int32) (h : HS) : Option HS := ck (inb p1 6) (nm ((p2 * (gI h 42 p1.toNatClampNeg))) (fun v3_2 => ck (inb p1 6) (bd (fX4_there ((gI h 40 p1.toNatClampNeg)) h) (fun r5 h4 => if r5 = 0 then (fX5_move_43 p1 v3_2 h4) else (ck (inb p1 6) (ck (inb (gI h4 40 p1.toNatClampNeg) 15) (ck (inb (gI h4 40 p1.toNatClampNeg) 15) (nm (pI h4 30 (gI h4 40 p1.toNatClampNeg).toNatClampNeg ((gI h4 30 (gI h4 40 p1.toNatClampNeg).toNatClampNeg) - v3_2)) (fun h9 => fX5_move_43 p1 v3_2 h9)))))))))
set_option maxRecDepth 100000 in
theorem tX5_move {p1 : Int32} {p2 : Int32} {h h0 : HS} (H : fX5_move p1 p2 h = some h0) : Cn skC yX5_move cX5_move 4 none 1 [.ref 6, .int p1, .int p2] h none h0 := by
  refine Cn_of (L := [some (.ref 6), some (.int p1), some (.int p2), none]) (by decide +kernel) (by simp [lg_sl, Value.category]) (fun ad => by simp [lg_sl, tv, Value.category]) (⟨rfl, ⟨rfl, ⟨rfl, trivial⟩⟩⟩) ?_
  unfold fX5_move at H
  refine j_iload_n (pc := 0) dX5_move_0 rfl ?_
  refine j_aload_n (pc := 1) dX5_move_1 rfl ?_
  refine j_getR (pc := 2) (b := 42) dX5_move_2 flX5_25 rfl ?_
  refine j_iload_n (pc := 5) dX5_move_5 rfl ?_
  obtain ⟨b1, H⟩ := ck_x H
  refine j_iaload (pc := 6) dX5_move_6 rfl b1 rfl ?_
  refine j_imul (pc := 7) dX5_move_7 ?_
  obtain ⟨v3_2, ev3_2, H⟩ := nm_x H
  refine j_topi ev3_2 ?_
  refine j_istore_n (pc := 8) (L' := [some (.ref 6), some (.int p1), some (.int p2), some (.int v3_2)]) dX5_move_8 (by decide) rfl ?_
  refine j_aload_n (pc := 9) dX5_move_9 rfl ?_
  refine j_getR (pc := 10) (b := 2) dX5_move_10 flX5_45 rfl ?_
  refine j_aload_n (pc := 13) dX5_move_13 rfl ?_
  refine j_getR (pc := 14) (b := 40) dX5_move_14 flX5_18 rfl ?_
  refine j_iload_n (pc := 17) dX5_move_17 rfl ?_
  obtain ⟨b3, H⟩ := ck_x H
  refine j_iaload (pc := 18) dX5_move_18 rfl b3 rfl ?_
  obtain ⟨r5, h4, eh4, H⟩ := bd_x H
  refine j_callV (pc := 19) dX5_move_19 mlX5_54 wyX4_there (tX4_there eh4) (by decide) rfl rfl rfl rfl (by simp [Value.category]) rfl ?_
  refine j_if_eq (pc := 22) (tgt := 43) dX5_move_22 (by decide) (fun c6 => ?_) (fun c6 => ?_)
  · rw [if_pos c6] at H
    refine Jx.sub (L' := [some (.ref 6), some (.int p1), none, some (.int v3_2)]) (⟨rfl, ⟨rfl, ⟨rfl, trivial⟩⟩⟩) ?_
    exact jX5_move_43 p1 v3_2 h4 H
  · rw [if_neg c6] at H
    refine j_aload_n (pc := 25) dX5_move_25 rfl ?_
    refine j_getR (pc := 26) (b := 2) dX5_move_26 flX5_45 rfl ?_
    refine j_getR (pc := 29) (b := 30) dX5_move_29 flX5_60 rfl ?_
    refine j_aload_n (pc := 32) dX5_move_32 rfl ?_
    refine j_getR (pc := 33) (b := 40) dX5_move_33 flX5_18 rfl ?_
    refine j_iload_n (pc := 36) dX5_move_36 rfl ?_
    obtain ⟨b7, H⟩ := ck_x H
    refine j_iaload (pc := 37) dX5_move_37 rfl b7 rfl ?_
    refine j_dup2 (pc := 38) dX5_move_38 rfl rfl ?_
    obtain ⟨b8, H⟩ := ck_x H
    refine j_iaload (pc := 39) dX5_move_39 rfl b8 rfl ?_
    refine j_iload_n (pc := 40) dX5_move_40 rfl ?_
    refine j_isub (pc := 41) dX5_move_41 ?_
    obtain ⟨b10, H⟩ := ck_x H
    obtain ⟨h9, eh9, H⟩ := nm_x H
    refine j_iastore (pc := 42) dX5_move_42 rfl b10 rfl h9 eh9 ?_
    refine Jx.sub (L' := [some (.ref 6), some (.int p1), none, some (.int v3_2)]) (⟨rfl, ⟨rfl, ⟨rfl, trivial⟩⟩⟩) ?_
    exact jX5_move_43 p1 v3_2 h9 H

noncomputable def fX5_weightGain_21 (v1 : Int32) (s0 : Int32) (h : HS) : Option (Int32 × HS) := ck (inb v1 6) (bd (fX4_there ((gI h 40 v1.toNatClampNeg)) h) (fun r7 h6 => if r7 = 0 then (some ((s0 - (0 : Int32)), h6)) else (some ((s0 - (1 : Int32)), h6))))
set_option maxRecDepth 100000 in
theorem jX5_weightGain_21 {r : Int32} {h0 : HS} (v1 : Int32) (s0 : Int32) (h : HS) (H : fX5_weightGain_21 v1 s0 h = some (r, h0)) : Jx skC RX5 cX5_weightGain 2 (some .int) 1 (some (.int r)) h0 21 [some (.ref 6), some (.int v1)] [.int s0] h := by
  unfold fX5_weightGain_21 at H
  refine j_aload_n (pc := 21) dX5_weightGain_21 rfl ?_
  refine j_getR (pc := 22) (b := 2) dX5_weightGain_22 flX5_45 rfl ?_
  refine j_aload_n (pc := 25) dX5_weightGain_25 rfl ?_
  refine j_getR (pc := 26) (b := 40) dX5_weightGain_26 flX5_18 rfl ?_
  refine j_iload_n (pc := 29) dX5_weightGain_29 rfl ?_
  obtain ⟨b5, H⟩ := ck_x H
  refine j_iaload (pc := 30) dX5_weightGain_30 rfl b5 rfl ?_
  obtain ⟨r7, h6, eh6, H⟩ := bd_x H
  refine j_callV (pc := 31) dX5_weightGain_31 mlX5_54 wyX4_there (tX4_there eh6) (by decide) rfl rfl rfl rfl (by simp [Value.category]) rfl ?_
  refine j_if_eq (pc := 34) (tgt := 41) dX5_weightGain_34 (by decide) (fun c8 => ?_) (fun c8 => ?_)
  · rw [if_pos c8] at H
    refine j_iconst (pc := 41) (v := 0) dX5_weightGain_41 (by decide) ?_
    refine j_isub (pc := 42) dX5_weightGain_42 ?_
    exact j_ireturn (pc := 43) dX5_weightGain_43 rfl (ri_1 H) (ri_2 H)
  · rw [if_neg c8] at H
    refine j_iconst (pc := 37) (v := 1) dX5_weightGain_37 (by decide) ?_
    refine j_goto (pc := 38) (tgt := 42) dX5_weightGain_38 (by decide) ?_
    refine j_isub (pc := 42) dX5_weightGain_42 ?_
    exact j_ireturn (pc := 43) dX5_weightGain_43 rfl (ri_1 H) (ri_2 H)
noncomputable def fX5_weightGain (p1 : Int32) (h : HS) : Option (Int32 × HS) := ck (inb p1 6) (bd (fX4_there ((gI h 41 p1.toNatClampNeg)) h) (fun r3 h2 => if r3 = 0 then (fX5_weightGain_21 p1 (0 : Int32) h2) else (fX5_weightGain_21 p1 (1 : Int32) h2)))
set_option maxRecDepth 100000 in
theorem tX5_weightGain {p1 : Int32} {r : Int32} {h h0 : HS} (H : fX5_weightGain p1 h = some (r, h0)) : Cn skC yX5_weightGain cX5_weightGain 2 (some .int) 1 [.ref 6, .int p1] h (some (.int r)) h0 := by
  refine Cn_of (L := [some (.ref 6), some (.int p1)]) (by decide +kernel) (by simp [lg_sl, Value.category]) (fun ad => by simp [lg_sl, tv, Value.category]) (⟨rfl, ⟨rfl, trivial⟩⟩) ?_
  unfold fX5_weightGain at H
  refine j_aload_n (pc := 0) dX5_weightGain_0 rfl ?_
  refine j_getR (pc := 1) (b := 2) dX5_weightGain_1 flX5_45 rfl ?_
  refine j_aload_n (pc := 4) dX5_weightGain_4 rfl ?_
  refine j_getR (pc := 5) (b := 41) dX5_weightGain_5 flX5_22 rfl ?_
  refine j_iload_n (pc := 8) dX5_weightGain_8 rfl ?_
  obtain ⟨b1, H⟩ := ck_x H
  refine j_iaload (pc := 9) dX5_weightGain_9 rfl b1 rfl ?_
  obtain ⟨r3, h2, eh2, H⟩ := bd_x H
  refine j_callV (pc := 10) dX5_weightGain_10 mlX5_54 wyX4_there (tX4_there eh2) (by decide) rfl rfl rfl rfl (by simp [Value.category]) rfl ?_
  refine j_if_eq (pc := 13) (tgt := 20) dX5_weightGain_13 (by decide) (fun c4 => ?_) (fun c4 => ?_)
  · rw [if_pos c4] at H
    refine j_iconst (pc := 20) (v := 0) dX5_weightGain_20 (by decide) ?_
    refine Jx.sub (L' := [some (.ref 6), some (.int p1)]) (⟨rfl, ⟨rfl, trivial⟩⟩) ?_
    exact jX5_weightGain_21 p1 (0 : Int32) h2 H
  · rw [if_neg c4] at H
    refine j_iconst (pc := 16) (v := 1) dX5_weightGain_16 (by decide) ?_
    refine j_goto (pc := 17) (tgt := 21) dX5_weightGain_17 (by decide) ?_
    refine Jx.sub (L' := [some (.ref 6), some (.int p1)]) (⟨rfl, ⟨rfl, trivial⟩⟩) ?_
    exact jX5_weightGain_21 p1 (1 : Int32) h2 H

noncomputable def fX5_momentGain_34 (v1 : Int32) (s0 : Int32) (h : HS) : Option (Int32 × HS) := ck (inb v1 6) (bd (fX4_there ((gI h 40 v1.toNatClampNeg)) h) (fun r9 h8 => if r9 = 0 then (some ((s0 - (0 : Int32)), h8)) else (ck (inb v1 6) (ck (inb (gI h8 40 v1.toNatClampNeg) 15) (some ((s0 - (gI h8 27 (gI h8 40 v1.toNatClampNeg).toNatClampNeg)), h8))))))
set_option maxRecDepth 100000 in
theorem jX5_momentGain_34 {r : Int32} {h0 : HS} (v1 : Int32) (s0 : Int32) (h : HS) (H : fX5_momentGain_34 v1 s0 h = some (r, h0)) : Jx skC RX5 cX5_momentGain 2 (some .int) 1 (some (.int r)) h0 34 [some (.ref 6), some (.int v1)] [.int s0] h := by
  unfold fX5_momentGain_34 at H
  refine j_aload_n (pc := 34) dX5_momentGain_34 rfl ?_
  refine j_getR (pc := 35) (b := 2) dX5_momentGain_35 flX5_45 rfl ?_
  refine j_aload_n (pc := 38) dX5_momentGain_38 rfl ?_
  refine j_getR (pc := 39) (b := 40) dX5_momentGain_39 flX5_18 rfl ?_
  refine j_iload_n (pc := 42) dX5_momentGain_42 rfl ?_
  obtain ⟨b7, H⟩ := ck_x H
  refine j_iaload (pc := 43) dX5_momentGain_43 rfl b7 rfl ?_
  obtain ⟨r9, h8, eh8, H⟩ := bd_x H
  refine j_callV (pc := 44) dX5_momentGain_44 mlX5_54 wyX4_there (tX4_there eh8) (by decide) rfl rfl rfl rfl (by simp [Value.category]) rfl ?_
  refine j_if_eq (pc := 47) (tgt := 67) dX5_momentGain_47 (by decide) (fun c10 => ?_) (fun c10 => ?_)
  · rw [if_pos c10] at H
    refine j_iconst (pc := 67) (v := 0) dX5_momentGain_67 (by decide) ?_
    refine j_isub (pc := 68) dX5_momentGain_68 ?_
    exact j_ireturn (pc := 69) dX5_momentGain_69 rfl (ri_1 H) (ri_2 H)
  · rw [if_neg c10] at H
    refine j_aload_n (pc := 50) dX5_momentGain_50 rfl ?_
    refine j_getR (pc := 51) (b := 2) dX5_momentGain_51 flX5_45 rfl ?_
    refine j_getR (pc := 54) (b := 27) dX5_momentGain_54 flX5_70 rfl ?_
    refine j_aload_n (pc := 57) dX5_momentGain_57 rfl ?_
    refine j_getR (pc := 58) (b := 40) dX5_momentGain_58 flX5_18 rfl ?_
    refine j_iload_n (pc := 61) dX5_momentGain_61 rfl ?_
    obtain ⟨b11, H⟩ := ck_x H
    refine j_iaload (pc := 62) dX5_momentGain_62 rfl b11 rfl ?_
    obtain ⟨b12, H⟩ := ck_x H
    refine j_iaload (pc := 63) dX5_momentGain_63 rfl b12 rfl ?_
    refine j_goto (pc := 64) (tgt := 68) dX5_momentGain_64 (by decide) ?_
    refine j_isub (pc := 68) dX5_momentGain_68 ?_
    exact j_ireturn (pc := 69) dX5_momentGain_69 rfl (ri_1 H) (ri_2 H)
noncomputable def fX5_momentGain (p1 : Int32) (h : HS) : Option (Int32 × HS) := ck (inb p1 6) (bd (fX4_there ((gI h 41 p1.toNatClampNeg)) h) (fun r3 h2 => if r3 = 0 then (fX5_momentGain_34 p1 (0 : Int32) h2) else (ck (inb p1 6) (ck (inb (gI h2 41 p1.toNatClampNeg) 15) (fX5_momentGain_34 p1 ((gI h2 27 (gI h2 41 p1.toNatClampNeg).toNatClampNeg)) h2)))))
set_option maxRecDepth 100000 in
theorem tX5_momentGain {p1 : Int32} {r : Int32} {h h0 : HS} (H : fX5_momentGain p1 h = some (r, h0)) : Cn skC yX5_momentGain cX5_momentGain 2 (some .int) 1 [.ref 6, .int p1] h (some (.int r)) h0 := by
  refine Cn_of (L := [some (.ref 6), some (.int p1)]) (by decide +kernel) (by simp [lg_sl, Value.category]) (fun ad => by simp [lg_sl, tv, Value.category]) (⟨rfl, ⟨rfl, trivial⟩⟩) ?_
  unfold fX5_momentGain at H
  refine j_aload_n (pc := 0) dX5_momentGain_0 rfl ?_
  refine j_getR (pc := 1) (b := 2) dX5_momentGain_1 flX5_45 rfl ?_
  refine j_aload_n (pc := 4) dX5_momentGain_4 rfl ?_
  refine j_getR (pc := 5) (b := 41) dX5_momentGain_5 flX5_22 rfl ?_
  refine j_iload_n (pc := 8) dX5_momentGain_8 rfl ?_
  obtain ⟨b1, H⟩ := ck_x H
  refine j_iaload (pc := 9) dX5_momentGain_9 rfl b1 rfl ?_
  obtain ⟨r3, h2, eh2, H⟩ := bd_x H
  refine j_callV (pc := 10) dX5_momentGain_10 mlX5_54 wyX4_there (tX4_there eh2) (by decide) rfl rfl rfl rfl (by simp [Value.category]) rfl ?_
  refine j_if_eq (pc := 13) (tgt := 33) dX5_momentGain_13 (by decide) (fun c4 => ?_) (fun c4 => ?_)
  · rw [if_pos c4] at H
    refine j_iconst (pc := 33) (v := 0) dX5_momentGain_33 (by decide) ?_
    refine Jx.sub (L' := [some (.ref 6), some (.int p1)]) (⟨rfl, ⟨rfl, trivial⟩⟩) ?_
    exact jX5_momentGain_34 p1 (0 : Int32) h2 H
  · rw [if_neg c4] at H
    refine j_aload_n (pc := 16) dX5_momentGain_16 rfl ?_
    refine j_getR (pc := 17) (b := 2) dX5_momentGain_17 flX5_45 rfl ?_
    refine j_getR (pc := 20) (b := 27) dX5_momentGain_20 flX5_70 rfl ?_
    refine j_aload_n (pc := 23) dX5_momentGain_23 rfl ?_
    refine j_getR (pc := 24) (b := 41) dX5_momentGain_24 flX5_22 rfl ?_
    refine j_iload_n (pc := 27) dX5_momentGain_27 rfl ?_
    obtain ⟨b5, H⟩ := ck_x H
    refine j_iaload (pc := 28) dX5_momentGain_28 rfl b5 rfl ?_
    obtain ⟨b6, H⟩ := ck_x H
    refine j_iaload (pc := 29) dX5_momentGain_29 rfl b6 rfl ?_
    refine j_goto (pc := 30) (tgt := 34) dX5_momentGain_30 (by decide) ?_
    refine Jx.sub (L' := [some (.ref 6), some (.int p1)]) (⟨rfl, ⟨rfl, trivial⟩⟩) ?_
    exact jX5_momentGain_34 p1 ((gI h2 27 (gI h2 41 p1.toNatClampNeg).toNatClampNeg)) h2 H

noncomputable def fX5_considerRun_116 (v2 : Int32) (v5 : Int32) (v6 : Int32) (h : HS) : Option HS := nm (pI h 6 8 v2) (fun h17 => nm (pI h17 6 9 v5) (fun h18 => nm (pI h18 6 10 v6) (fun h19 => some h19)))
set_option maxRecDepth 100000 in
theorem jX5_considerRun_116 {h0 : HS} (v2 : Int32) (v5 : Int32) (v6 : Int32) (h : HS) (H : fX5_considerRun_116 v2 v5 v6 h = some h0) : Jx skC RX5 cX5_considerRun 9 none 3 none h0 116 [some (.ref 6), none, some (.int v2), none, none, some (.int v5), some (.int v6), none, none] [] h := by
  unfold fX5_considerRun_116 at H
  refine j_aload_n (pc := 116) dX5_considerRun_116 rfl ?_
  refine j_iload_n (pc := 117) dX5_considerRun_117 rfl ?_
  obtain ⟨h17, eh17, H⟩ := nm_x H
  refine j_putI (pc := 118) dX5_considerRun_118 fpX5_84 rfl h17 eh17 ?_
  refine j_aload_n (pc := 121) dX5_considerRun_121 rfl ?_
  refine j_iload (pc := 122) dX5_considerRun_122 rfl ?_
  obtain ⟨h18, eh18, H⟩ := nm_x H
  refine j_putI (pc := 124) dX5_considerRun_124 fpX5_87 rfl h18 eh18 ?_
  refine j_aload_n (pc := 127) dX5_considerRun_127 rfl ?_
  refine j_iload (pc := 128) dX5_considerRun_128 rfl ?_
  obtain ⟨h19, eh19, H⟩ := nm_x H
  refine j_putI (pc := 130) dX5_considerRun_130 fpX5_90 rfl h19 eh19 ?_
  exact j_return (pc := 133) dX5_considerRun_133 rfl rfl (rv_2 H)
noncomputable def fX5_considerRun_89 (v2 : Int32) (v5 : Int32) (v6 : Int32) (v7 : Int32) (s0 : Int32) (h : HS) : Option HS := if v7 = 0 then (if s0 = 0 then (some h) else (if (iabs (gI h 6 10)) ≤ (iabs v6) then (some h) else (fX5_considerRun_116 v2 v5 v6 h))) else (fX5_considerRun_116 v2 v5 v6 h)
set_option maxRecDepth 100000 in
theorem jX5_considerRun_89 {h0 : HS} (v2 : Int32) (v5 : Int32) (v6 : Int32) (v7 : Int32) (s0 : Int32) (h : HS) (H : fX5_considerRun_89 v2 v5 v6 v7 s0 h = some h0) : Jx skC RX5 cX5_considerRun 9 none 3 none h0 89 [some (.ref 6), none, some (.int v2), none, none, some (.int v5), some (.int v6), some (.int v7), none] [.int s0] h := by
  unfold fX5_considerRun_89 at H
  refine j_istore (pc := 89) (L' := [some (.ref 6), none, some (.int v2), none, none, some (.int v5), some (.int v6), some (.int v7), some (.int s0)]) dX5_considerRun_89 (by decide) rfl ?_
  refine j_iload (pc := 91) dX5_considerRun_91 rfl ?_
  refine j_if_ne (pc := 93) (tgt := 116) dX5_considerRun_93 (by decide) (fun c14 => ?_) (fun c14 => ?_)
  · rw [if_neg c14] at H
    refine Jx.sub (L' := [some (.ref 6), none, some (.int v2), none, none, some (.int v5), some (.int v6), none, none]) (⟨rfl, ⟨rfl, ⟨rfl, ⟨rfl, trivial⟩⟩⟩⟩) ?_
    exact jX5_considerRun_116 v2 v5 v6 h H
  · rw [if_pos c14] at H
    refine j_iload (pc := 96) dX5_considerRun_96 rfl ?_
    refine j_if_eq (pc := 98) (tgt := 133) dX5_considerRun_98 (by decide) (fun c15 => ?_) (fun c15 => ?_)
    · rw [if_pos c15] at H
      exact j_return (pc := 133) dX5_considerRun_133 rfl rfl (rv_2 H)
    · rw [if_neg c15] at H
      refine j_iload (pc := 101) dX5_considerRun_101 rfl ?_
      refine j_mabs (pc := 103) dX5_considerRun_103 wmX5_106 (by simp [Value.category]) ?_
      refine j_aload_n (pc := 106) dX5_considerRun_106 rfl ?_
      refine j_getI (pc := 107) dX5_considerRun_107 flX5_90 rfl ?_
      refine j_mabs (pc := 110) dX5_considerRun_110 wmX5_106 (by simp [Value.category]) ?_
      refine j_icmp_ge (pc := 113) (tgt := 133) dX5_considerRun_113 (by decide) (fun c16 => ?_) (fun c16 => ?_)
      · rw [if_pos c16] at H
        exact j_return (pc := 133) dX5_considerRun_133 rfl rfl (rv_2 H)
      · rw [if_neg c16] at H
        refine Jx.sub (L' := [some (.ref 6), none, some (.int v2), none, none, some (.int v5), some (.int v6), none, none]) (⟨rfl, ⟨rfl, ⟨rfl, ⟨rfl, trivial⟩⟩⟩⟩) ?_
        exact jX5_considerRun_116 v2 v5 v6 h H
noncomputable def fX5_considerRun_67 (v2 : Int32) (v5 : Int32) (v6 : Int32) (s0 : Int32) (h : HS) : Option HS := if (iabs v5) = (iabs (gI h 6 9)) then (fX5_considerRun_89 v2 v5 v6 s0 (1 : Int32) h) else (fX5_considerRun_89 v2 v5 v6 s0 (0 : Int32) h)
set_option maxRecDepth 100000 in
theorem jX5_considerRun_67 {h0 : HS} (v2 : Int32) (v5 : Int32) (v6 : Int32) (s0 : Int32) (h : HS) (H : fX5_considerRun_67 v2 v5 v6 s0 h = some h0) : Jx skC RX5 cX5_considerRun 9 none 3 none h0 67 [some (.ref 6), none, some (.int v2), none, none, some (.int v5), some (.int v6), none, none] [.int s0] h := by
  unfold fX5_considerRun_67 at H
  refine j_istore (pc := 67) (L' := [some (.ref 6), none, some (.int v2), none, none, some (.int v5), some (.int v6), some (.int s0), none]) dX5_considerRun_67 (by decide) rfl ?_
  refine j_iload (pc := 69) dX5_considerRun_69 rfl ?_
  refine j_mabs (pc := 71) dX5_considerRun_71 wmX5_106 (by simp [Value.category]) ?_
  refine j_aload_n (pc := 74) dX5_considerRun_74 rfl ?_
  refine j_getI (pc := 75) dX5_considerRun_75 flX5_87 rfl ?_
  refine j_mabs (pc := 78) dX5_considerRun_78 wmX5_106 (by simp [Value.category]) ?_
  refine j_icmp_ne (pc := 81) (tgt := 88) dX5_considerRun_81 (by decide) (fun c13 => ?_) (fun c13 => ?_)
  · rw [if_neg c13] at H
    refine j_iconst (pc := 88) (v := 0) dX5_considerRun_88 (by decide) ?_
    refine Jx.sub (L' := [some (.ref 6), none, some (.int v2), none, none, some (.int v5), some (.int v6), some (.int s0), none]) (⟨rfl, ⟨rfl, ⟨rfl, ⟨rfl, ⟨rfl, trivial⟩⟩⟩⟩⟩) ?_
    exact jX5_considerRun_89 v2 v5 v6 s0 (0 : Int32) h H
  · rw [if_pos c13] at H
    refine j_iconst (pc := 84) (v := 1) dX5_considerRun_84 (by decide) ?_
    refine j_goto (pc := 85) (tgt := 89) dX5_considerRun_85 (by decide) ?_
    refine Jx.sub (L' := [some (.ref 6), none, some (.int v2), none, none, some (.int v5), some (.int v6), some (.int s0), none]) (⟨rfl, ⟨rfl, ⟨rfl, ⟨rfl, ⟨rfl, trivial⟩⟩⟩⟩⟩) ?_
    exact jX5_considerRun_89 v2 v5 v6 s0 (1 : Int32) h H
noncomputable def fX5_considerRun (p1 : Int32) (p2 : Int32) (p3 : Int32) (p4 : Int32) (h : HS) : Option HS := bd (fX5_can p1 p2 h) (fun r2 h1 => if r2 = 0 then (some h1) else (ck (inb p1 6) (bd (fX5_weightGain p1 h1) (fun r6 h5 => nm ((p3 + ((p2 * (gI h1 42 p1.toNatClampNeg)) * r6))) (fun v5_7 => ck (inb p1 6) (bd (fX5_momentGain p1 h5) (fun r10 h9 => nm ((p4 + ((p2 * (gI h5 42 p1.toNatClampNeg)) * r10))) (fun v6_11 => if (iabs (gI h9 6 9)) ≤ (iabs v5_7) then (fX5_considerRun_67 p2 v5_7 v6_11 (0 : Int32) h9) else (fX5_considerRun_67 p2 v5_7 v6_11 (1 : Int32) h9)))))))))
set_option maxRecDepth 100000 in
theorem tX5_considerRun {p1 : Int32} {p2 : Int32} {p3 : Int32} {p4 : Int32} {h h0 : HS} (H : fX5_considerRun p1 p2 p3 p4 h = some h0) : Cn skC yX5_considerRun cX5_considerRun 9 none 3 [.ref 6, .int p1, .int p2, .int p3, .int p4] h none h0 := by
  refine Cn_of (L := [some (.ref 6), some (.int p1), some (.int p2), some (.int p3), some (.int p4), none, none, none, none]) (by decide +kernel) (by simp [lg_sl, Value.category]) (fun ad => by simp [lg_sl, tv, Value.category]) (⟨rfl, ⟨rfl, ⟨rfl, ⟨rfl, ⟨rfl, trivial⟩⟩⟩⟩⟩) ?_
  unfold fX5_considerRun at H
  refine j_aload_n (pc := 0) dX5_considerRun_0 rfl ?_
  refine j_iload_n (pc := 1) dX5_considerRun_1 rfl ?_
  refine j_iload_n (pc := 2) dX5_considerRun_2 rfl ?_
  obtain ⟨r2, h1, eh1, H⟩ := bd_x H
  refine j_callV (pc := 3) dX5_considerRun_3 mlX5_97 wyX5_can (tX5_can eh1) (by decide) rfl rfl rfl rfl (by simp [Value.category]) rfl ?_
  refine j_if_ne (pc := 6) (tgt := 10) dX5_considerRun_6 (by decide) (fun c3 => ?_) (fun c3 => ?_)
  · rw [if_neg c3] at H
    refine j_iload_n (pc := 10) dX5_considerRun_10 rfl ?_
    refine j_iload_n (pc := 11) dX5_considerRun_11 rfl ?_
    refine j_aload_n (pc := 12) dX5_considerRun_12 rfl ?_
    refine j_getR (pc := 13) (b := 42) dX5_considerRun_13 flX5_25 rfl ?_
    refine j_iload_n (pc := 16) dX5_considerRun_16 rfl ?_
    obtain ⟨b4, H⟩ := ck_x H
    refine j_iaload (pc := 17) dX5_considerRun_17 rfl b4 rfl ?_
    refine j_imul (pc := 18) dX5_considerRun_18 ?_
    refine j_aload_n (pc := 19) dX5_considerRun_19 rfl ?_
    refine j_iload_n (pc := 20) dX5_considerRun_20 rfl ?_
    obtain ⟨r6, h5, eh5, H⟩ := bd_x H
    refine j_callV (pc := 21) dX5_considerRun_21 mlX5_100 wyX5_weightGain (tX5_weightGain eh5) (by decide) rfl rfl rfl rfl (by simp [Value.category]) rfl ?_
    refine j_imul (pc := 24) dX5_considerRun_24 ?_
    refine j_iadd (pc := 25) dX5_considerRun_25 ?_
    obtain ⟨v5_7, ev5_7, H⟩ := nm_x H
    refine j_topi ev5_7 ?_
    refine j_istore (pc := 26) (L' := [some (.ref 6), some (.int p1), some (.int p2), some (.int p3), some (.int p4), some (.int v5_7), none, none, none]) dX5_considerRun_26 (by decide) rfl ?_
    refine j_iload (pc := 28) dX5_considerRun_28 rfl ?_
    refine j_iload_n (pc := 30) dX5_considerRun_30 rfl ?_
    refine j_aload_n (pc := 31) dX5_considerRun_31 rfl ?_
    refine j_getR (pc := 32) (b := 42) dX5_considerRun_32 flX5_25 rfl ?_
    refine j_iload_n (pc := 35) dX5_considerRun_35 rfl ?_
    obtain ⟨b8, H⟩ := ck_x H
    refine j_iaload (pc := 36) dX5_considerRun_36 rfl b8 rfl ?_
    refine j_imul (pc := 37) dX5_considerRun_37 ?_
    refine j_aload_n (pc := 38) dX5_considerRun_38 rfl ?_
    refine j_iload_n (pc := 39) dX5_considerRun_39 rfl ?_
    obtain ⟨r10, h9, eh9, H⟩ := bd_x H
    refine j_callV (pc := 40) dX5_considerRun_40 mlX5_103 wyX5_momentGain (tX5_momentGain eh9) (by decide) rfl rfl rfl rfl (by simp [Value.category]) rfl ?_
    refine j_imul (pc := 43) dX5_considerRun_43 ?_
    refine j_iadd (pc := 44) dX5_considerRun_44 ?_
    obtain ⟨v6_11, ev6_11, H⟩ := nm_x H
    refine j_topi ev6_11 ?_
    refine j_istore (pc := 45) (L' := [some (.ref 6), some (.int p1), some (.int p2), some (.int p3), some (.int p4), some (.int v5_7), some (.int v6_11), none, none]) dX5_considerRun_45 (by decide) rfl ?_
    refine j_iload (pc := 47) dX5_considerRun_47 rfl ?_
    refine j_mabs (pc := 49) dX5_considerRun_49 wmX5_106 (by simp [Value.category]) ?_
    refine j_aload_n (pc := 52) dX5_considerRun_52 rfl ?_
    refine j_getI (pc := 53) dX5_considerRun_53 flX5_87 rfl ?_
    refine j_mabs (pc := 56) dX5_considerRun_56 wmX5_106 (by simp [Value.category]) ?_
    refine j_icmp_ge (pc := 59) (tgt := 66) dX5_considerRun_59 (by decide) (fun c12 => ?_) (fun c12 => ?_)
    · rw [if_pos c12] at H
      refine j_iconst (pc := 66) (v := 0) dX5_considerRun_66 (by decide) ?_
      refine Jx.sub (L' := [some (.ref 6), none, some (.int p2), none, none, some (.int v5_7), some (.int v6_11), none, none]) (⟨rfl, ⟨rfl, ⟨rfl, ⟨rfl, trivial⟩⟩⟩⟩) ?_
      exact jX5_considerRun_67 p2 v5_7 v6_11 (0 : Int32) h9 H
    · rw [if_neg c12] at H
      refine j_iconst (pc := 62) (v := 1) dX5_considerRun_62 (by decide) ?_
      refine j_goto (pc := 63) (tgt := 67) dX5_considerRun_63 (by decide) ?_
      refine Jx.sub (L' := [some (.ref 6), none, some (.int p2), none, none, some (.int v5_7), some (.int v6_11), none, none]) (⟨rfl, ⟨rfl, ⟨rfl, ⟨rfl, trivial⟩⟩⟩⟩) ?_
      exact jX5_considerRun_67 p2 v5_7 v6_11 (1 : Int32) h9 H
  · rw [if_pos c3] at H
    exact j_return (pc := 9) dX5_considerRun_9 rfl rfl (rv_2 H)

noncomputable def fX5_findBest_37 : Nat → Int32 → Int32 → Int32 → Int32 → HS → Option HS
  | 0, _, _, _, _, _ => none
  | n + 1, v1, v3, v4, v5, h => if (99 : Int32) < v5 then (some h) else (bv (fX5_considerRun v1 ((-v5)) v3 v4 h) (fun h9 => bv (fX5_considerRun v1 v5 v3 v4 h9) (fun h10 => nm (v5 + (1 : Int32)) (fun v5_11 => fX5_findBest_37 n v1 v3 v4 v5_11 h10))))
set_option maxRecDepth 100000 in
theorem jX5_findBest_37 {h0 : HS} : ∀ (n : Nat) (v1 : Int32) (v3 : Int32) (v4 : Int32) (v5 : Int32) (h : HS), fX5_findBest_37 n v1 v3 v4 v5 h = some h0 → Jx skC RX5 cX5_findBest 6 none 4 none h0 37 [some (.ref 6), some (.int v1), none, some (.int v3), some (.int v4), some (.int v5)] [] h := by
  intro n
  induction n with
  | zero => intro v1 v3 v4 v5  h H; cases H
  | succ n ih =>
    intro v1 v3 v4 v5  h H
    rw [fX5_findBest_37] at H
    refine j_iload (pc := 37) dX5_findBest_37 rfl ?_
    refine j_bipush (pc := 39) (v := 99) dX5_findBest_39 (by decide) ?_
    refine j_icmp_gt (pc := 41) (tgt := 71) dX5_findBest_41 (by decide) (fun c8 => ?_) (fun c8 => ?_)
    · rw [if_pos c8] at H
      exact j_return (pc := 71) dX5_findBest_71 rfl rfl (rv_2 H)
    · rw [if_neg c8] at H
      refine j_aload_n (pc := 44) dX5_findBest_44 rfl ?_
      refine j_iload_n (pc := 45) dX5_findBest_45 rfl ?_
      refine j_iload (pc := 46) dX5_findBest_46 rfl ?_
      refine j_ineg (pc := 48) dX5_findBest_48 ?_
      refine j_iload_n (pc := 49) dX5_findBest_49 rfl ?_
      refine j_iload (pc := 50) dX5_findBest_50 rfl ?_
      obtain ⟨h9, eh9, H⟩ := bv_x H
      refine j_callV (pc := 52) dX5_findBest_52 mlX5_93 wyX5_considerRun (tX5_considerRun eh9) (by decide) rfl rfl rfl rfl (by simp [Value.category]) rfl ?_
      refine j_aload_n (pc := 55) dX5_findBest_55 rfl ?_
      refine j_iload_n (pc := 56) dX5_findBest_56 rfl ?_
      refine j_iload (pc := 57) dX5_findBest_57 rfl ?_
      refine j_iload_n (pc := 59) dX5_findBest_59 rfl ?_
      refine j_iload (pc := 60) dX5_findBest_60 rfl ?_
      obtain ⟨h10, eh10, H⟩ := bv_x H
      refine j_callV (pc := 62) dX5_findBest_62 mlX5_93 wyX5_considerRun (tX5_considerRun eh10) (by decide) rfl rfl rfl rfl (by simp [Value.category]) rfl ?_
      obtain ⟨v5_11, ev5_11, H⟩ := nm_x H
      refine j_iinc (pc := 65) (L' := [some (.ref 6), some (.int v1), none, some (.int v3), some (.int v4), some (.int v5_11)]) (w := 1) dX5_findBest_65 rfl (by decide) (by decide) v5_11 ev5_11 rfl ?_
      refine j_goto (pc := 68) (tgt := 37) dX5_findBest_68 (by decide) ?_
      refine Jx.sub (L' := [some (.ref 6), some (.int v1), none, some (.int v3), some (.int v4), some (.int v5_11)]) (⟨rfl, ⟨rfl, ⟨rfl, ⟨rfl, ⟨rfl, trivial⟩⟩⟩⟩⟩) ?_
      exact ih v1 v3 v4 v5_11 h10 H
noncomputable def fX5_findBest (p1 : Int32) (p2 : Int32) (h : HS) : Option HS := bd (fX0_heavyAt p2 h) (fun r2 h1 => bd (fX0_momentNow h1) (fun r4 h3 => nm (pI h3 6 8 (0 : Int32)) (fun h5 => nm (pI h5 6 9 r2) (fun h6 => nm (pI h6 6 10 r4) (fun h7 => fX5_findBest_37 FU p1 r2 r4 (1 : Int32) h7)))))
set_option maxRecDepth 100000 in
theorem tX5_findBest {p1 : Int32} {p2 : Int32} {h h0 : HS} (H : fX5_findBest p1 p2 h = some h0) : Cn skC yX5_findBest cX5_findBest 6 none 4 [.ref 6, .int p1, .int p2] h none h0 := by
  refine Cn_of (L := [some (.ref 6), some (.int p1), some (.int p2), none, none, none]) (by decide +kernel) (by simp [lg_sl, Value.category]) (fun ad => by simp [lg_sl, tv, Value.category]) (⟨rfl, ⟨rfl, ⟨rfl, trivial⟩⟩⟩) ?_
  unfold fX5_findBest at H
  refine j_aload_n (pc := 0) dX5_findBest_0 rfl ?_
  refine j_getR (pc := 1) (b := 1) dX5_findBest_1 flX5_35 rfl ?_
  refine j_iload_n (pc := 4) dX5_findBest_4 rfl ?_
  obtain ⟨r2, h1, eh1, H⟩ := bd_x H
  refine j_callV (pc := 5) dX5_findBest_5 mlX5_76 wyX0_heavyAt (tX0_heavyAt eh1) (by decide) rfl rfl rfl rfl (by simp [Value.category]) rfl ?_
  refine j_istore_n (pc := 8) (L' := [some (.ref 6), some (.int p1), some (.int p2), some (.int r2), none, none]) dX5_findBest_8 (by decide) rfl ?_
  refine j_aload_n (pc := 9) dX5_findBest_9 rfl ?_
  refine j_getR (pc := 10) (b := 1) dX5_findBest_10 flX5_35 rfl ?_
  obtain ⟨r4, h3, eh3, H⟩ := bd_x H
  refine j_callV (pc := 13) dX5_findBest_13 mlX5_80 wyX0_momentNow (tX0_momentNow eh3) (by decide) rfl rfl rfl rfl (by simp [Value.category]) rfl ?_
  refine j_istore (pc := 16) (L' := [some (.ref 6), some (.int p1), some (.int p2), some (.int r2), some (.int r4), none]) dX5_findBest_16 (by decide) rfl ?_
  refine j_aload_n (pc := 18) dX5_findBest_18 rfl ?_
  refine j_iconst (pc := 19) (v := 0) dX5_findBest_19 (by decide) ?_
  obtain ⟨h5, eh5, H⟩ := nm_x H
  refine j_putI (pc := 20) dX5_findBest_20 fpX5_84 rfl h5 eh5 ?_
  refine j_aload_n (pc := 23) dX5_findBest_23 rfl ?_
  refine j_iload_n (pc := 24) dX5_findBest_24 rfl ?_
  obtain ⟨h6, eh6, H⟩ := nm_x H
  refine j_putI (pc := 25) dX5_findBest_25 fpX5_87 rfl h6 eh6 ?_
  refine j_aload_n (pc := 28) dX5_findBest_28 rfl ?_
  refine j_iload (pc := 29) dX5_findBest_29 rfl ?_
  obtain ⟨h7, eh7, H⟩ := nm_x H
  refine j_putI (pc := 31) dX5_findBest_31 fpX5_90 rfl h7 eh7 ?_
  refine j_iconst (pc := 34) (v := 1) dX5_findBest_34 (by decide) ?_
  refine j_istore (pc := 35) (L' := [some (.ref 6), some (.int p1), some (.int p2), some (.int r2), some (.int r4), some (.int (1 : Int32))]) dX5_findBest_35 (by decide) rfl ?_
  refine Jx.sub (L' := [some (.ref 6), some (.int p1), none, some (.int r2), some (.int r4), some (.int (1 : Int32))]) (⟨rfl, ⟨rfl, ⟨rfl, ⟨rfl, ⟨rfl, trivial⟩⟩⟩⟩⟩) ?_
  exact jX5_findBest_37 FU p1 r2 r4 (1 : Int32) h7 H

noncomputable def fX5_noteFound_40 (v2 : Int32) (v4 : Int32) (s1 : Int32) (h : HS) : Option HS := nm (pI h 6 13 s1) (fun h6 => nm (pI h6 6 8 ((iabs v2) + (iabs v4))) (fun h7 => some h7))
set_option maxRecDepth 100000 in
theorem jX5_noteFound_40 {h0 : HS} (v2 : Int32) (v4 : Int32) (s1 : Int32) (h : HS) (H : fX5_noteFound_40 v2 v4 s1 h = some h0) : Jx skC RX5 cX5_noteFound 5 none 0 none h0 40 [some (.ref 6), none, some (.int v2), none, some (.int v4)] [.int s1, .ref 6] h := by
  unfold fX5_noteFound_40 at H
  obtain ⟨h6, eh6, H⟩ := nm_x H
  refine j_putI (pc := 40) dX5_noteFound_40 fpX5_111 rfl h6 eh6 ?_
  refine j_aload_n (pc := 43) dX5_noteFound_43 rfl ?_
  refine j_iload_n (pc := 44) dX5_noteFound_44 rfl ?_
  refine j_mabs (pc := 45) dX5_noteFound_45 wmX5_106 (by simp [Value.category]) ?_
  refine j_iload (pc := 48) dX5_noteFound_48 rfl ?_
  refine j_mabs (pc := 50) dX5_noteFound_50 wmX5_106 (by simp [Value.category]) ?_
  refine j_iadd (pc := 53) dX5_noteFound_53 ?_
  obtain ⟨h7, eh7, H⟩ := nm_x H
  refine j_putI (pc := 54) dX5_noteFound_54 fpX5_84 rfl h7 eh7 ?_
  exact j_return (pc := 57) dX5_noteFound_57 rfl rfl (rv_2 H)
noncomputable def fX5_noteFound (p1 : Int32) (p2 : Int32) (p3 : Int32) (p4 : Int32) (h : HS) : Option HS := nm (pI h 44 0 p1) (fun h1 => nm (pI h1 44 1 p2) (fun h2 => nm (pI h2 44 2 p3) (fun h3 => nm (pI h3 44 3 p4) (fun h4 => if p3 = (-1 : Int32) then (fX5_noteFound_40 p2 p4 (2 : Int32) h4) else (fX5_noteFound_40 p2 p4 (4 : Int32) h4)))))
set_option maxRecDepth 100000 in
theorem tX5_noteFound {p1 : Int32} {p2 : Int32} {p3 : Int32} {p4 : Int32} {h h0 : HS} (H : fX5_noteFound p1 p2 p3 p4 h = some h0) : Cn skC yX5_noteFound cX5_noteFound 5 none 0 [.ref 6, .int p1, .int p2, .int p3, .int p4] h none h0 := by
  refine Cn_of (L := [some (.ref 6), some (.int p1), some (.int p2), some (.int p3), some (.int p4)]) (by decide +kernel) (by simp [lg_sl, Value.category]) (fun ad => by simp [lg_sl, tv, Value.category]) (⟨rfl, ⟨rfl, ⟨rfl, ⟨rfl, ⟨rfl, trivial⟩⟩⟩⟩⟩) ?_
  unfold fX5_noteFound at H
  refine j_aload_n (pc := 0) dX5_noteFound_0 rfl ?_
  refine j_getR (pc := 1) (b := 44) dX5_noteFound_1 flX5_32 rfl ?_
  refine j_iconst (pc := 4) (v := 0) dX5_noteFound_4 (by decide) ?_
  refine j_iload_n (pc := 5) dX5_noteFound_5 rfl ?_
  obtain ⟨h1, eh1, H⟩ := nm_x H
  refine j_iastore (pc := 6) (j := 0) dX5_noteFound_6 rfl (by decide) (by decide) h1 eh1 ?_
  refine j_aload_n (pc := 7) dX5_noteFound_7 rfl ?_
  refine j_getR (pc := 8) (b := 44) dX5_noteFound_8 flX5_32 rfl ?_
  refine j_iconst (pc := 11) (v := 1) dX5_noteFound_11 (by decide) ?_
  refine j_iload_n (pc := 12) dX5_noteFound_12 rfl ?_
  obtain ⟨h2, eh2, H⟩ := nm_x H
  refine j_iastore (pc := 13) (j := 1) dX5_noteFound_13 rfl (by decide) (by decide) h2 eh2 ?_
  refine j_aload_n (pc := 14) dX5_noteFound_14 rfl ?_
  refine j_getR (pc := 15) (b := 44) dX5_noteFound_15 flX5_32 rfl ?_
  refine j_iconst (pc := 18) (v := 2) dX5_noteFound_18 (by decide) ?_
  refine j_iload_n (pc := 19) dX5_noteFound_19 rfl ?_
  obtain ⟨h3, eh3, H⟩ := nm_x H
  refine j_iastore (pc := 20) (j := 2) dX5_noteFound_20 rfl (by decide) (by decide) h3 eh3 ?_
  refine j_aload_n (pc := 21) dX5_noteFound_21 rfl ?_
  refine j_getR (pc := 22) (b := 44) dX5_noteFound_22 flX5_32 rfl ?_
  refine j_iconst (pc := 25) (v := 3) dX5_noteFound_25 (by decide) ?_
  refine j_iload (pc := 26) dX5_noteFound_26 rfl ?_
  obtain ⟨h4, eh4, H⟩ := nm_x H
  refine j_iastore (pc := 28) (j := 3) dX5_noteFound_28 rfl (by decide) (by decide) h4 eh4 ?_
  refine j_aload_n (pc := 29) dX5_noteFound_29 rfl ?_
  refine j_iload_n (pc := 30) dX5_noteFound_30 rfl ?_
  refine j_iconst (pc := 31) (v := -1) dX5_noteFound_31 (by decide) ?_
  refine j_icmp_ne (pc := 32) (tgt := 39) dX5_noteFound_32 (by decide) (fun c5 => ?_) (fun c5 => ?_)
  · rw [if_neg c5] at H
    refine j_iconst (pc := 39) (v := 4) dX5_noteFound_39 (by decide) ?_
    refine Jx.sub (L' := [some (.ref 6), none, some (.int p2), none, some (.int p4)]) (⟨rfl, ⟨rfl, ⟨rfl, trivial⟩⟩⟩) ?_
    exact jX5_noteFound_40 p2 p4 (4 : Int32) h4 H
  · rw [if_pos c5] at H
    refine j_iconst (pc := 35) (v := 2) dX5_noteFound_35 (by decide) ?_
    refine j_goto (pc := 36) (tgt := 40) dX5_noteFound_36 (by decide) ?_
    refine Jx.sub (L' := [some (.ref 6), none, some (.int p2), none, some (.int p4)]) (⟨rfl, ⟨rfl, ⟨rfl, trivial⟩⟩⟩) ?_
    exact jX5_noteFound_40 p2 p4 (2 : Int32) h4 H

noncomputable def fX5_boundByEnd (p1 : Int32) (p2 : Int32) (h : HS) : Option HS := bd (fX4_there p1 h) (fun r2 h1 => if r2 = 0 then (some h1) else (ck (inb p1 15) (ck (inb p1 15) (bv (fX7_narrow 13 (((gI h1 30 p1.toNatClampNeg).toInt64)) ((p2.toInt64)) (0 : Int64) (((gI h1 29 p1.toNatClampNeg).toInt64)) h1) (fun h6 => some h6)))))
set_option maxRecDepth 100000 in
theorem tX5_boundByEnd {p1 : Int32} {p2 : Int32} {h h0 : HS} (H : fX5_boundByEnd p1 p2 h = some h0) : Cn skC yX5_boundByEnd cX5_boundByEnd 3 none 2 [.ref 6, .int p1, .int p2] h none h0 := by
  refine Cn_of (L := [some (.ref 6), some (.int p1), some (.int p2)]) (by decide +kernel) (by simp [lg_sl, Value.category]) (fun ad => by simp [lg_sl, tv, Value.category]) (⟨rfl, ⟨rfl, ⟨rfl, trivial⟩⟩⟩) ?_
  unfold fX5_boundByEnd at H
  refine j_aload_n (pc := 0) dX5_boundByEnd_0 rfl ?_
  refine j_getR (pc := 1) (b := 2) dX5_boundByEnd_1 flX5_45 rfl ?_
  refine j_iload_n (pc := 4) dX5_boundByEnd_4 rfl ?_
  obtain ⟨r2, h1, eh1, H⟩ := bd_x H
  refine j_callV (pc := 5) dX5_boundByEnd_5 mlX5_54 wyX4_there (tX4_there eh1) (by decide) rfl rfl rfl rfl (by simp [Value.category]) rfl ?_
  refine j_if_eq (pc := 8) (tgt := 41) dX5_boundByEnd_8 (by decide) (fun c3 => ?_) (fun c3 => ?_)
  · rw [if_pos c3] at H
    exact j_return (pc := 41) dX5_boundByEnd_41 rfl rfl (rv_2 H)
  · rw [if_neg c3] at H
    refine j_aload_n (pc := 11) dX5_boundByEnd_11 rfl ?_
    refine j_getR (pc := 12) (b := 13) dX5_boundByEnd_12 flX5_12 rfl ?_
    refine j_aload_n (pc := 15) dX5_boundByEnd_15 rfl ?_
    refine j_getR (pc := 16) (b := 2) dX5_boundByEnd_16 flX5_45 rfl ?_
    refine j_getR (pc := 19) (b := 30) dX5_boundByEnd_19 flX5_60 rfl ?_
    refine j_iload_n (pc := 22) dX5_boundByEnd_22 rfl ?_
    obtain ⟨b4, H⟩ := ck_x H
    refine j_iaload (pc := 23) dX5_boundByEnd_23 rfl b4 rfl ?_
    refine j_i2l (pc := 24) dX5_boundByEnd_24 ?_
    refine j_iload_n (pc := 25) dX5_boundByEnd_25 rfl ?_
    refine j_i2l (pc := 26) dX5_boundByEnd_26 ?_
    refine j_lconst (pc := 27) (v := 0) dX5_boundByEnd_27 (by decide) ?_
    refine j_aload_n (pc := 28) dX5_boundByEnd_28 rfl ?_
    refine j_getR (pc := 29) (b := 2) dX5_boundByEnd_29 flX5_45 rfl ?_
    refine j_getR (pc := 32) (b := 29) dX5_boundByEnd_32 flX5_63 rfl ?_
    refine j_iload_n (pc := 35) dX5_boundByEnd_35 rfl ?_
    obtain ⟨b5, H⟩ := ck_x H
    refine j_iaload (pc := 36) dX5_boundByEnd_36 rfl b5 rfl ?_
    refine j_i2l (pc := 37) dX5_boundByEnd_37 ?_
    obtain ⟨h6, eh6, H⟩ := bv_x H
    refine j_callV (pc := 38) dX5_boundByEnd_38 mlX5_166 wyX7_narrow (tX7_narrow rfl eh6) (by decide) rfl rfl rfl rfl (by simp [Value.category]) rfl ?_
    exact j_return (pc := 41) dX5_boundByEnd_41 rfl rfl (rv_2 H)

noncomputable def fX5_boundBySlack (p1 : Int32) (p2 : Int32) (p3 : Int32) (h : HS) : Option HS := ck (inb p3 3) (ck (inb p3 3) (bv (fX7_narrow 13 ((p1.toInt64)) ((p2.toInt64)) (((-(gI h 17 p3.toNatClampNeg)).toInt64)) (((gI h 17 p3.toNatClampNeg).toInt64)) h) (fun h3 => some h3)))
set_option maxRecDepth 100000 in
theorem tX5_boundBySlack {p1 : Int32} {p2 : Int32} {p3 : Int32} {h h0 : HS} (H : fX5_boundBySlack p1 p2 p3 h = some h0) : Cn skC yX5_boundBySlack cX5_boundBySlack 4 none 2 [.ref 6, .int p1, .int p2, .int p3] h none h0 := by
  refine Cn_of (L := [some (.ref 6), some (.int p1), some (.int p2), some (.int p3)]) (by decide +kernel) (by simp [lg_sl, Value.category]) (fun ad => by simp [lg_sl, tv, Value.category]) (⟨rfl, ⟨rfl, ⟨rfl, ⟨rfl, trivial⟩⟩⟩⟩) ?_
  unfold fX5_boundBySlack at H
  refine j_aload_n (pc := 0) dX5_boundBySlack_0 rfl ?_
  refine j_getR (pc := 1) (b := 13) dX5_boundBySlack_1 flX5_12 rfl ?_
  refine j_iload_n (pc := 4) dX5_boundBySlack_4 rfl ?_
  refine j_i2l (pc := 5) dX5_boundBySlack_5 ?_
  refine j_iload_n (pc := 6) dX5_boundBySlack_6 rfl ?_
  refine j_i2l (pc := 7) dX5_boundBySlack_7 ?_
  refine j_aload_n (pc := 8) dX5_boundBySlack_8 rfl ?_
  refine j_getR (pc := 9) (b := 1) dX5_boundBySlack_9 flX5_35 rfl ?_
  refine j_getR (pc := 12) (b := 17) dX5_boundBySlack_12 flX5_170 rfl ?_
  refine j_iload_n (pc := 15) dX5_boundBySlack_15 rfl ?_
  obtain ⟨b1, H⟩ := ck_x H
  refine j_iaload (pc := 16) dX5_boundBySlack_16 rfl b1 rfl ?_
  refine j_ineg (pc := 17) dX5_boundBySlack_17 ?_
  refine j_i2l (pc := 18) dX5_boundBySlack_18 ?_
  refine j_aload_n (pc := 19) dX5_boundBySlack_19 rfl ?_
  refine j_getR (pc := 20) (b := 1) dX5_boundBySlack_20 flX5_35 rfl ?_
  refine j_getR (pc := 23) (b := 17) dX5_boundBySlack_23 flX5_170 rfl ?_
  refine j_iload_n (pc := 26) dX5_boundBySlack_26 rfl ?_
  obtain ⟨b2, H⟩ := ck_x H
  refine j_iaload (pc := 27) dX5_boundBySlack_27 rfl b2 rfl ?_
  refine j_i2l (pc := 28) dX5_boundBySlack_28 ?_
  obtain ⟨h3, eh3, H⟩ := bv_x H
  refine j_callV (pc := 29) dX5_boundBySlack_29 mlX5_166 wyX7_narrow (tX7_narrow rfl eh3) (by decide) rfl rfl rfl rfl (by simp [Value.category]) rfl ?_
  exact j_return (pc := 32) dX5_boundBySlack_32 rfl rfl (rv_2 H)

noncomputable def fX5_listGain_34 (v1 : Int32) (s0 : Int32) (h : HS) : Option (Int32 × HS) := ck (inb v1 6) (bd (fX4_there ((gI h 40 v1.toNatClampNeg)) h) (fun r9 h8 => if r9 = 0 then (some ((s0 - (0 : Int32)), h8)) else (ck (inb v1 6) (ck (inb (gI h8 40 v1.toNatClampNeg) 15) (some ((s0 - (gI h8 28 (gI h8 40 v1.toNatClampNeg).toNatClampNeg)), h8))))))
set_option maxRecDepth 100000 in
theorem jX5_listGain_34 {r : Int32} {h0 : HS} (v1 : Int32) (s0 : Int32) (h : HS) (H : fX5_listGain_34 v1 s0 h = some (r, h0)) : Jx skC RX5 cX5_listGain 2 (some .int) 1 (some (.int r)) h0 34 [some (.ref 6), some (.int v1)] [.int s0] h := by
  unfold fX5_listGain_34 at H
  refine j_aload_n (pc := 34) dX5_listGain_34 rfl ?_
  refine j_getR (pc := 35) (b := 2) dX5_listGain_35 flX5_45 rfl ?_
  refine j_aload_n (pc := 38) dX5_listGain_38 rfl ?_
  refine j_getR (pc := 39) (b := 40) dX5_listGain_39 flX5_18 rfl ?_
  refine j_iload_n (pc := 42) dX5_listGain_42 rfl ?_
  obtain ⟨b7, H⟩ := ck_x H
  refine j_iaload (pc := 43) dX5_listGain_43 rfl b7 rfl ?_
  obtain ⟨r9, h8, eh8, H⟩ := bd_x H
  refine j_callV (pc := 44) dX5_listGain_44 mlX5_54 wyX4_there (tX4_there eh8) (by decide) rfl rfl rfl rfl (by simp [Value.category]) rfl ?_
  refine j_if_eq (pc := 47) (tgt := 67) dX5_listGain_47 (by decide) (fun c10 => ?_) (fun c10 => ?_)
  · rw [if_pos c10] at H
    refine j_iconst (pc := 67) (v := 0) dX5_listGain_67 (by decide) ?_
    refine j_isub (pc := 68) dX5_listGain_68 ?_
    exact j_ireturn (pc := 69) dX5_listGain_69 rfl (ri_1 H) (ri_2 H)
  · rw [if_neg c10] at H
    refine j_aload_n (pc := 50) dX5_listGain_50 rfl ?_
    refine j_getR (pc := 51) (b := 2) dX5_listGain_51 flX5_45 rfl ?_
    refine j_getR (pc := 54) (b := 28) dX5_listGain_54 flX5_73 rfl ?_
    refine j_aload_n (pc := 57) dX5_listGain_57 rfl ?_
    refine j_getR (pc := 58) (b := 40) dX5_listGain_58 flX5_18 rfl ?_
    refine j_iload_n (pc := 61) dX5_listGain_61 rfl ?_
    obtain ⟨b11, H⟩ := ck_x H
    refine j_iaload (pc := 62) dX5_listGain_62 rfl b11 rfl ?_
    obtain ⟨b12, H⟩ := ck_x H
    refine j_iaload (pc := 63) dX5_listGain_63 rfl b12 rfl ?_
    refine j_goto (pc := 64) (tgt := 68) dX5_listGain_64 (by decide) ?_
    refine j_isub (pc := 68) dX5_listGain_68 ?_
    exact j_ireturn (pc := 69) dX5_listGain_69 rfl (ri_1 H) (ri_2 H)
noncomputable def fX5_listGain (p1 : Int32) (h : HS) : Option (Int32 × HS) := ck (inb p1 6) (bd (fX4_there ((gI h 41 p1.toNatClampNeg)) h) (fun r3 h2 => if r3 = 0 then (fX5_listGain_34 p1 (0 : Int32) h2) else (ck (inb p1 6) (ck (inb (gI h2 41 p1.toNatClampNeg) 15) (fX5_listGain_34 p1 ((gI h2 28 (gI h2 41 p1.toNatClampNeg).toNatClampNeg)) h2)))))
set_option maxRecDepth 100000 in
theorem tX5_listGain {p1 : Int32} {r : Int32} {h h0 : HS} (H : fX5_listGain p1 h = some (r, h0)) : Cn skC yX5_listGain cX5_listGain 2 (some .int) 1 [.ref 6, .int p1] h (some (.int r)) h0 := by
  refine Cn_of (L := [some (.ref 6), some (.int p1)]) (by decide +kernel) (by simp [lg_sl, Value.category]) (fun ad => by simp [lg_sl, tv, Value.category]) (⟨rfl, ⟨rfl, trivial⟩⟩) ?_
  unfold fX5_listGain at H
  refine j_aload_n (pc := 0) dX5_listGain_0 rfl ?_
  refine j_getR (pc := 1) (b := 2) dX5_listGain_1 flX5_45 rfl ?_
  refine j_aload_n (pc := 4) dX5_listGain_4 rfl ?_
  refine j_getR (pc := 5) (b := 41) dX5_listGain_5 flX5_22 rfl ?_
  refine j_iload_n (pc := 8) dX5_listGain_8 rfl ?_
  obtain ⟨b1, H⟩ := ck_x H
  refine j_iaload (pc := 9) dX5_listGain_9 rfl b1 rfl ?_
  obtain ⟨r3, h2, eh2, H⟩ := bd_x H
  refine j_callV (pc := 10) dX5_listGain_10 mlX5_54 wyX4_there (tX4_there eh2) (by decide) rfl rfl rfl rfl (by simp [Value.category]) rfl ?_
  refine j_if_eq (pc := 13) (tgt := 33) dX5_listGain_13 (by decide) (fun c4 => ?_) (fun c4 => ?_)
  · rw [if_pos c4] at H
    refine j_iconst (pc := 33) (v := 0) dX5_listGain_33 (by decide) ?_
    refine Jx.sub (L' := [some (.ref 6), some (.int p1)]) (⟨rfl, ⟨rfl, trivial⟩⟩) ?_
    exact jX5_listGain_34 p1 (0 : Int32) h2 H
  · rw [if_neg c4] at H
    refine j_aload_n (pc := 16) dX5_listGain_16 rfl ?_
    refine j_getR (pc := 17) (b := 2) dX5_listGain_17 flX5_45 rfl ?_
    refine j_getR (pc := 20) (b := 28) dX5_listGain_20 flX5_73 rfl ?_
    refine j_aload_n (pc := 23) dX5_listGain_23 rfl ?_
    refine j_getR (pc := 24) (b := 41) dX5_listGain_24 flX5_22 rfl ?_
    refine j_iload_n (pc := 27) dX5_listGain_27 rfl ?_
    obtain ⟨b5, H⟩ := ck_x H
    refine j_iaload (pc := 28) dX5_listGain_28 rfl b5 rfl ?_
    obtain ⟨b6, H⟩ := ck_x H
    refine j_iaload (pc := 29) dX5_listGain_29 rfl b6 rfl ?_
    refine j_goto (pc := 30) (tgt := 34) dX5_listGain_30 (by decide) ?_
    refine Jx.sub (L' := [some (.ref 6), some (.int p1)]) (⟨rfl, ⟨rfl, trivial⟩⟩) ?_
    exact jX5_listGain_34 p1 ((gI h2 28 (gI h2 41 p1.toNatClampNeg).toNatClampNeg)) h2 H

noncomputable def fX5_fewestOf (p1 : Int32) (h : HS) : Option (Int32 × HS) := bv (fX7_reset 13 (-99 : Int64) (99 : Int64) h) (fun h1 => ck (inb p1 6) (ck (inb p1 6) (bv (fX5_boundByEnd ((gI h1 40 p1.toNatClampNeg)) ((-(gI h1 42 p1.toNatClampNeg))) h1) (fun h4 => ck (inb p1 6) (ck (inb p1 6) (bv (fX5_boundByEnd ((gI h4 41 p1.toNatClampNeg)) ((gI h4 42 p1.toNatClampNeg)) h4) (fun h7 => ck (inb p1 6) (bd (fX5_weightGain p1 h7) (fun r10 h9 => bv (fX5_boundBySlack ((gI h7 6 9)) (((gI h7 42 p1.toNatClampNeg) * r10)) (0 : Int32) h9) (fun h11 => ck (inb p1 6) (bd (fX5_momentGain p1 h11) (fun r14 h13 => bv (fX5_boundBySlack ((gI h11 6 10)) (((gI h11 42 p1.toNatClampNeg) * r14)) (1 : Int32) h13) (fun h15 => ck (inb p1 6) (bd (fX5_listGain p1 h15) (fun r18 h17 => bv (fX5_boundBySlack ((gI h15 6 11)) (((gI h15 42 p1.toNatClampNeg) * r18)) (2 : Int32) h17) (fun h19 => bd (fX7_isEmpty 13 h19) (fun r21 h20 => if r21 = 0 then (if (lg_cmp (gL h20 13 0) (0 : Int64)) ≤ 0 then (some (((gL h20 13 1).toInt32), h20)) else (some (((gL h20 13 0).toInt32), h20))) else (some ((0 : Int32), h20)))))))))))))))))))
set_option maxRecDepth 100000 in
theorem tX5_fewestOf {p1 : Int32} {r : Int32} {h h0 : HS} (H : fX5_fewestOf p1 h = some (r, h0)) : Cn skC yX5_fewestOf cX5_fewestOf 2 (some .int) 3 [.ref 6, .int p1] h (some (.int r)) h0 := by
  refine Cn_of (L := [some (.ref 6), some (.int p1)]) (by decide +kernel) (by simp [lg_sl, Value.category]) (fun ad => by simp [lg_sl, tv, Value.category]) (⟨rfl, ⟨rfl, trivial⟩⟩) ?_
  unfold fX5_fewestOf at H
  refine j_aload_n (pc := 0) dX5_fewestOf_0 rfl ?_
  refine j_getR (pc := 1) (b := 13) dX5_fewestOf_1 flX5_12 rfl ?_
  refine j_ldc2 (pc := 4) dX5_fewestOf_4 wkX5_137 ?_
  refine j_ldc2 (pc := 7) dX5_fewestOf_7 wkX5_139 ?_
  obtain ⟨h1, eh1, H⟩ := bv_x H
  refine j_callV (pc := 10) dX5_fewestOf_10 mlX5_141 wyX7_reset (tX7_reset rfl eh1) (by decide) rfl rfl rfl rfl (by simp [Value.category]) rfl ?_
  refine j_aload_n (pc := 13) dX5_fewestOf_13 rfl ?_
  refine j_aload_n (pc := 14) dX5_fewestOf_14 rfl ?_
  refine j_getR (pc := 15) (b := 40) dX5_fewestOf_15 flX5_18 rfl ?_
  refine j_iload_n (pc := 18) dX5_fewestOf_18 rfl ?_
  obtain ⟨b2, H⟩ := ck_x H
  refine j_iaload (pc := 19) dX5_fewestOf_19 rfl b2 rfl ?_
  refine j_aload_n (pc := 20) dX5_fewestOf_20 rfl ?_
  refine j_getR (pc := 21) (b := 42) dX5_fewestOf_21 flX5_25 rfl ?_
  refine j_iload_n (pc := 24) dX5_fewestOf_24 rfl ?_
  obtain ⟨b3, H⟩ := ck_x H
  refine j_iaload (pc := 25) dX5_fewestOf_25 rfl b3 rfl ?_
  refine j_ineg (pc := 26) dX5_fewestOf_26 ?_
  obtain ⟨h4, eh4, H⟩ := bv_x H
  refine j_callV (pc := 27) dX5_fewestOf_27 mlX5_145 wyX5_boundByEnd (tX5_boundByEnd eh4) (by decide) rfl rfl rfl rfl (by simp [Value.category]) rfl ?_
  refine j_aload_n (pc := 30) dX5_fewestOf_30 rfl ?_
  refine j_aload_n (pc := 31) dX5_fewestOf_31 rfl ?_
  refine j_getR (pc := 32) (b := 41) dX5_fewestOf_32 flX5_22 rfl ?_
  refine j_iload_n (pc := 35) dX5_fewestOf_35 rfl ?_
  obtain ⟨b5, H⟩ := ck_x H
  refine j_iaload (pc := 36) dX5_fewestOf_36 rfl b5 rfl ?_
  refine j_aload_n (pc := 37) dX5_fewestOf_37 rfl ?_
  refine j_getR (pc := 38) (b := 42) dX5_fewestOf_38 flX5_25 rfl ?_
  refine j_iload_n (pc := 41) dX5_fewestOf_41 rfl ?_
  obtain ⟨b6, H⟩ := ck_x H
  refine j_iaload (pc := 42) dX5_fewestOf_42 rfl b6 rfl ?_
  obtain ⟨h7, eh7, H⟩ := bv_x H
  refine j_callV (pc := 43) dX5_fewestOf_43 mlX5_145 wyX5_boundByEnd (tX5_boundByEnd eh7) (by decide) rfl rfl rfl rfl (by simp [Value.category]) rfl ?_
  refine j_aload_n (pc := 46) dX5_fewestOf_46 rfl ?_
  refine j_aload_n (pc := 47) dX5_fewestOf_47 rfl ?_
  refine j_getI (pc := 48) dX5_fewestOf_48 flX5_87 rfl ?_
  refine j_aload_n (pc := 51) dX5_fewestOf_51 rfl ?_
  refine j_getR (pc := 52) (b := 42) dX5_fewestOf_52 flX5_25 rfl ?_
  refine j_iload_n (pc := 55) dX5_fewestOf_55 rfl ?_
  obtain ⟨b8, H⟩ := ck_x H
  refine j_iaload (pc := 56) dX5_fewestOf_56 rfl b8 rfl ?_
  refine j_aload_n (pc := 57) dX5_fewestOf_57 rfl ?_
  refine j_iload_n (pc := 58) dX5_fewestOf_58 rfl ?_
  obtain ⟨r10, h9, eh9, H⟩ := bd_x H
  refine j_callV (pc := 59) dX5_fewestOf_59 mlX5_100 wyX5_weightGain (tX5_weightGain eh9) (by decide) rfl rfl rfl rfl (by simp [Value.category]) rfl ?_
  refine j_imul (pc := 62) dX5_fewestOf_62 ?_
  refine j_iconst (pc := 63) (v := 0) dX5_fewestOf_63 (by decide) ?_
  obtain ⟨h11, eh11, H⟩ := bv_x H
  refine j_callV (pc := 64) dX5_fewestOf_64 mlX5_148 wyX5_boundBySlack (tX5_boundBySlack eh11) (by decide) rfl rfl rfl rfl (by simp [Value.category]) rfl ?_
  refine j_aload_n (pc := 67) dX5_fewestOf_67 rfl ?_
  refine j_aload_n (pc := 68) dX5_fewestOf_68 rfl ?_
  refine j_getI (pc := 69) dX5_fewestOf_69 flX5_90 rfl ?_
  refine j_aload_n (pc := 72) dX5_fewestOf_72 rfl ?_
  refine j_getR (pc := 73) (b := 42) dX5_fewestOf_73 flX5_25 rfl ?_
  refine j_iload_n (pc := 76) dX5_fewestOf_76 rfl ?_
  obtain ⟨b12, H⟩ := ck_x H
  refine j_iaload (pc := 77) dX5_fewestOf_77 rfl b12 rfl ?_
  refine j_aload_n (pc := 78) dX5_fewestOf_78 rfl ?_
  refine j_iload_n (pc := 79) dX5_fewestOf_79 rfl ?_
  obtain ⟨r14, h13, eh13, H⟩ := bd_x H
  refine j_callV (pc := 80) dX5_fewestOf_80 mlX5_103 wyX5_momentGain (tX5_momentGain eh13) (by decide) rfl rfl rfl rfl (by simp [Value.category]) rfl ?_
  refine j_imul (pc := 83) dX5_fewestOf_83 ?_
  refine j_iconst (pc := 84) (v := 1) dX5_fewestOf_84 (by decide) ?_
  obtain ⟨h15, eh15, H⟩ := bv_x H
  refine j_callV (pc := 85) dX5_fewestOf_85 mlX5_148 wyX5_boundBySlack (tX5_boundBySlack eh15) (by decide) rfl rfl rfl rfl (by simp [Value.category]) rfl ?_
  refine j_aload_n (pc := 88) dX5_fewestOf_88 rfl ?_
  refine j_aload_n (pc := 89) dX5_fewestOf_89 rfl ?_
  refine j_getI (pc := 90) dX5_fewestOf_90 flX5_131 rfl ?_
  refine j_aload_n (pc := 93) dX5_fewestOf_93 rfl ?_
  refine j_getR (pc := 94) (b := 42) dX5_fewestOf_94 flX5_25 rfl ?_
  refine j_iload_n (pc := 97) dX5_fewestOf_97 rfl ?_
  obtain ⟨b16, H⟩ := ck_x H
  refine j_iaload (pc := 98) dX5_fewestOf_98 rfl b16 rfl ?_
  refine j_aload_n (pc := 99) dX5_fewestOf_99 rfl ?_
  refine j_iload_n (pc := 100) dX5_fewestOf_100 rfl ?_
  obtain ⟨r18, h17, eh17, H⟩ := bd_x H
  refine j_callV (pc := 101) dX5_fewestOf_101 mlX5_152 wyX5_listGain (tX5_listGain eh17) (by decide) rfl rfl rfl rfl (by simp [Value.category]) rfl ?_
  refine j_imul (pc := 104) dX5_fewestOf_104 ?_
  refine j_iconst (pc := 105) (v := 2) dX5_fewestOf_105 (by decide) ?_
  obtain ⟨h19, eh19, H⟩ := bv_x H
  refine j_callV (pc := 106) dX5_fewestOf_106 mlX5_148 wyX5_boundBySlack (tX5_boundBySlack eh19) (by decide) rfl rfl rfl rfl (by simp [Value.category]) rfl ?_
  refine j_aload_n (pc := 109) dX5_fewestOf_109 rfl ?_
  refine j_getR (pc := 110) (b := 13) dX5_fewestOf_110 flX5_12 rfl ?_
  obtain ⟨r21, h20, eh20, H⟩ := bd_x H
  refine j_callV (pc := 113) dX5_fewestOf_113 mlX5_155 wyX7_isEmpty (tX7_isEmpty rfl eh20) (by decide) rfl rfl rfl rfl (by simp [Value.category]) rfl ?_
  refine j_if_eq (pc := 116) (tgt := 121) dX5_fewestOf_116 (by decide) (fun c22 => ?_) (fun c22 => ?_)
  · rw [if_pos c22] at H
    refine j_aload_n (pc := 121) dX5_fewestOf_121 rfl ?_
    refine j_getR (pc := 122) (b := 13) dX5_fewestOf_122 flX5_12 rfl ?_
    refine j_getL (pc := 125) dX5_fewestOf_125 flX5_159 rfl ?_
    refine j_lconst (pc := 128) (v := 0) dX5_fewestOf_128 (by decide) ?_
    refine j_lcmp (pc := 129) dX5_fewestOf_129 ?_
    refine j_if_le (pc := 130) (tgt := 143) dX5_fewestOf_130 (by decide) (fun c23 => ?_) (fun c23 => ?_)
    · rw [if_pos c23] at H
      refine j_aload_n (pc := 143) dX5_fewestOf_143 rfl ?_
      refine j_getR (pc := 144) (b := 13) dX5_fewestOf_144 flX5_12 rfl ?_
      refine j_getL (pc := 147) dX5_fewestOf_147 flX5_163 rfl ?_
      refine j_l2i (pc := 150) dX5_fewestOf_150 ?_
      exact j_ireturn (pc := 151) dX5_fewestOf_151 rfl (ri_1 H) (ri_2 H)
    · rw [if_neg c23] at H
      refine j_aload_n (pc := 133) dX5_fewestOf_133 rfl ?_
      refine j_getR (pc := 134) (b := 13) dX5_fewestOf_134 flX5_12 rfl ?_
      refine j_getL (pc := 137) dX5_fewestOf_137 flX5_159 rfl ?_
      refine j_goto (pc := 140) (tgt := 150) dX5_fewestOf_140 (by decide) ?_
      refine j_l2i (pc := 150) dX5_fewestOf_150 ?_
      exact j_ireturn (pc := 151) dX5_fewestOf_151 rfl (ri_1 H) (ri_2 H)
  · rw [if_neg c22] at H
    refine j_iconst (pc := 119) (v := 0) dX5_fewestOf_119 (by decide) ?_
    exact j_ireturn (pc := 120) dX5_fewestOf_120 rfl (ri_1 H) (ri_2 H)

noncomputable def fX5_considerFirst_93 (k63 : Int32 → Int32 → Int32 → Int32 → Int32 → HS → Option HS) (v1 : Int32) (v2 : Int32) (v4 : Int32) (v5 : Int32) (v6 : Int32) (h : HS) : Option HS := bd (fX5_fewestOf v6 h) (fun r23 h22 => if r23 = 0 then (nm (v6 + (1 : Int32)) (fun v6_25 => k63 v1 v2 v4 v5 v6_25 h22)) else (if (gI h22 6 8) ≤ (v5 + (iabs r23)) then (nm (v6 + (1 : Int32)) (fun v6_27 => k63 v1 v2 v4 v5 v6_27 h22)) else (bv (fX5_noteFound v1 v2 v6 r23 h22) (fun h28 => nm (v6 + (1 : Int32)) (fun v6_29 => k63 v1 v2 v4 v5 v6_29 h28)))))
set_option maxRecDepth 100000 in
theorem jX5_considerFirst_93 {h0 : HS} (k63 : Int32 → Int32 → Int32 → Int32 → Int32 → HS → Option HS) (hk63 : ∀ (v1 : Int32) (v2 : Int32) (v4 : Int32) (v5 : Int32) (v6 : Int32) (h : HS), k63 v1 v2 v4 v5 v6 h = some h0 → Jx skC RX5 cX5_considerFirst 8 none 4 none h0 63 [some (.ref 6), some (.int v1), some (.int v2), none, some (.int v4), some (.int v5), some (.int v6), none] [] h) (v1 : Int32) (v2 : Int32) (v4 : Int32) (v5 : Int32) (v6 : Int32) (h : HS) (H : fX5_considerFirst_93 k63 v1 v2 v4 v5 v6 h = some h0) : Jx skC RX5 cX5_considerFirst 8 none 4 none h0 93 [some (.ref 6), some (.int v1), some (.int v2), none, some (.int v4), some (.int v5), some (.int v6), none] [] h := by
  unfold fX5_considerFirst_93 at H
  refine j_aload_n (pc := 93) dX5_considerFirst_93 rfl ?_
  refine j_iload (pc := 94) dX5_considerFirst_94 rfl ?_
  obtain ⟨r23, h22, eh22, H⟩ := bd_x H
  refine j_callV (pc := 96) dX5_considerFirst_96 mlX5_134 wyX5_fewestOf (tX5_fewestOf eh22) (by decide) rfl rfl rfl rfl (by simp [Value.category]) rfl ?_
  refine j_istore (pc := 99) (L' := [some (.ref 6), some (.int v1), some (.int v2), none, some (.int v4), some (.int v5), some (.int v6), some (.int r23)]) dX5_considerFirst_99 (by decide) rfl ?_
  refine j_iload (pc := 101) dX5_considerFirst_101 rfl ?_
  refine j_if_eq (pc := 103) (tgt := 131) dX5_considerFirst_103 (by decide) (fun c24 => ?_) (fun c24 => ?_)
  · rw [if_pos c24] at H
    obtain ⟨v6_25, ev6_25, H⟩ := nm_x H
    refine j_iinc (pc := 131) (L' := [some (.ref 6), some (.int v1), some (.int v2), none, some (.int v4), some (.int v5), some (.int v6_25), some (.int r23)]) (w := 1) dX5_considerFirst_131 rfl (by decide) (by decide) v6_25 ev6_25 rfl ?_
    refine j_goto (pc := 134) (tgt := 63) dX5_considerFirst_134 (by decide) ?_
    refine Jx.sub (L' := [some (.ref 6), some (.int v1), some (.int v2), none, some (.int v4), some (.int v5), some (.int v6_25), none]) (⟨rfl, ⟨rfl, ⟨rfl, ⟨rfl, ⟨rfl, ⟨rfl, trivial⟩⟩⟩⟩⟩⟩) ?_
    exact hk63 v1 v2 v4 v5 v6_25 h22 H
  · rw [if_neg c24] at H
    refine j_iload (pc := 106) dX5_considerFirst_106 rfl ?_
    refine j_iload (pc := 108) dX5_considerFirst_108 rfl ?_
    refine j_mabs (pc := 110) dX5_considerFirst_110 wmX5_106 (by simp [Value.category]) ?_
    refine j_iadd (pc := 113) dX5_considerFirst_113 ?_
    refine j_aload_n (pc := 114) dX5_considerFirst_114 rfl ?_
    refine j_getI (pc := 115) dX5_considerFirst_115 flX5_84 rfl ?_
    refine j_icmp_ge (pc := 118) (tgt := 131) dX5_considerFirst_118 (by decide) (fun c26 => ?_) (fun c26 => ?_)
    · rw [if_pos c26] at H
      obtain ⟨v6_27, ev6_27, H⟩ := nm_x H
      refine j_iinc (pc := 131) (L' := [some (.ref 6), some (.int v1), some (.int v2), none, some (.int v4), some (.int v5), some (.int v6_27), some (.int r23)]) (w := 1) dX5_considerFirst_131 rfl (by decide) (by decide) v6_27 ev6_27 rfl ?_
      refine j_goto (pc := 134) (tgt := 63) dX5_considerFirst_134 (by decide) ?_
      refine Jx.sub (L' := [some (.ref 6), some (.int v1), some (.int v2), none, some (.int v4), some (.int v5), some (.int v6_27), none]) (⟨rfl, ⟨rfl, ⟨rfl, ⟨rfl, ⟨rfl, ⟨rfl, trivial⟩⟩⟩⟩⟩⟩) ?_
      exact hk63 v1 v2 v4 v5 v6_27 h22 H
    · rw [if_neg c26] at H
      refine j_aload_n (pc := 121) dX5_considerFirst_121 rfl ?_
      refine j_iload_n (pc := 122) dX5_considerFirst_122 rfl ?_
      refine j_iload_n (pc := 123) dX5_considerFirst_123 rfl ?_
      refine j_iload (pc := 124) dX5_considerFirst_124 rfl ?_
      refine j_iload (pc := 126) dX5_considerFirst_126 rfl ?_
      obtain ⟨h28, eh28, H⟩ := bv_x H
      refine j_callV (pc := 128) dX5_considerFirst_128 mlX5_125 wyX5_noteFound (tX5_noteFound eh28) (by decide) rfl rfl rfl rfl (by simp [Value.category]) rfl ?_
      obtain ⟨v6_29, ev6_29, H⟩ := nm_x H
      refine j_iinc (pc := 131) (L' := [some (.ref 6), some (.int v1), some (.int v2), none, some (.int v4), some (.int v5), some (.int v6_29), some (.int r23)]) (w := 1) dX5_considerFirst_131 rfl (by decide) (by decide) v6_29 ev6_29 rfl ?_
      refine j_goto (pc := 134) (tgt := 63) dX5_considerFirst_134 (by decide) ?_
      refine Jx.sub (L' := [some (.ref 6), some (.int v1), some (.int v2), none, some (.int v4), some (.int v5), some (.int v6_29), none]) (⟨rfl, ⟨rfl, ⟨rfl, ⟨rfl, ⟨rfl, ⟨rfl, trivial⟩⟩⟩⟩⟩⟩) ?_
      exact hk63 v1 v2 v4 v5 v6_29 h28 H
noncomputable def fX5_considerFirst_63 : Nat → Int32 → Int32 → Int32 → Int32 → Int32 → HS → Option HS
  | 0, _, _, _, _, _, _ => none
  | n + 1, v1, v2, v4, v5, v6, h => if (gI h 6 3) ≤ v6 then (some h) else (if v6 = v1 then (nm (v6 + (1 : Int32)) (fun v6_17 => fX5_considerFirst_63 n v1 v2 v4 v5 v6_17 h)) else (ck (inb v6 6) (if (gI h 43 v6.toNatClampNeg) = 0 then (if v4 = 0 then (fX5_considerFirst_93 (fX5_considerFirst_63 n) v1 v2 v4 v5 v6 h) else (nm (v6 + (1 : Int32)) (fun v6_21 => fX5_considerFirst_63 n v1 v2 v4 v5 v6_21 h))) else (fX5_considerFirst_93 (fX5_considerFirst_63 n) v1 v2 v4 v5 v6 h))))
set_option maxRecDepth 100000 in
theorem jX5_considerFirst_63 {h0 : HS} : ∀ (n : Nat) (v1 : Int32) (v2 : Int32) (v4 : Int32) (v5 : Int32) (v6 : Int32) (h : HS), fX5_considerFirst_63 n v1 v2 v4 v5 v6 h = some h0 → Jx skC RX5 cX5_considerFirst 8 none 4 none h0 63 [some (.ref 6), some (.int v1), some (.int v2), none, some (.int v4), some (.int v5), some (.int v6), none] [] h := by
  intro n
  induction n with
  | zero => intro v1 v2 v4 v5 v6  h H; cases H
  | succ n ih =>
    intro v1 v2 v4 v5 v6  h H
    rw [fX5_considerFirst_63] at H
    refine j_iload (pc := 63) dX5_considerFirst_63 rfl ?_
    refine j_aload_n (pc := 65) dX5_considerFirst_65 rfl ?_
    refine j_getI (pc := 66) dX5_considerFirst_66 flX5_46 rfl ?_
    refine j_icmp_ge (pc := 69) (tgt := 137) dX5_considerFirst_69 (by decide) (fun c15 => ?_) (fun c15 => ?_)
    · rw [if_pos c15] at H
      exact j_return (pc := 137) dX5_considerFirst_137 rfl rfl (rv_2 H)
    · rw [if_neg c15] at H
      refine j_iload (pc := 72) dX5_considerFirst_72 rfl ?_
      refine j_iload_n (pc := 74) dX5_considerFirst_74 rfl ?_
      refine j_icmp_eq (pc := 75) (tgt := 131) dX5_considerFirst_75 (by decide) (fun c16 => ?_) (fun c16 => ?_)
      · rw [if_pos c16] at H
        obtain ⟨v6_17, ev6_17, H⟩ := nm_x H
        refine j_iinc (pc := 131) (L' := [some (.ref 6), some (.int v1), some (.int v2), none, some (.int v4), some (.int v5), some (.int v6_17), none]) (w := 1) dX5_considerFirst_131 rfl (by decide) (by decide) v6_17 ev6_17 rfl ?_
        refine j_goto (pc := 134) (tgt := 63) dX5_considerFirst_134 (by decide) ?_
        refine Jx.sub (L' := [some (.ref 6), some (.int v1), some (.int v2), none, some (.int v4), some (.int v5), some (.int v6_17), none]) (⟨rfl, ⟨rfl, ⟨rfl, ⟨rfl, ⟨rfl, ⟨rfl, trivial⟩⟩⟩⟩⟩⟩) ?_
        exact ih v1 v2 v4 v5 v6_17 h H
      · rw [if_neg c16] at H
        refine j_aload_n (pc := 78) dX5_considerFirst_78 rfl ?_
        refine j_getR (pc := 79) (b := 43) dX5_considerFirst_79 flX5_28 rfl ?_
        refine j_iload (pc := 82) dX5_considerFirst_82 rfl ?_
        obtain ⟨b18, H⟩ := ck_x H
        refine j_zaload (pc := 84) dX5_considerFirst_84 rfl b18 rfl ?_
        refine j_if_ne (pc := 85) (tgt := 93) dX5_considerFirst_85 (by decide) (fun c19 => ?_) (fun c19 => ?_)
        · rw [if_neg c19] at H
          refine Jx.sub (L' := [some (.ref 6), some (.int v1), some (.int v2), none, some (.int v4), some (.int v5), some (.int v6), none]) (⟨rfl, ⟨rfl, ⟨rfl, ⟨rfl, ⟨rfl, ⟨rfl, trivial⟩⟩⟩⟩⟩⟩) ?_
          exact jX5_considerFirst_93 _ ih v1 v2 v4 v5 v6 h H
        · rw [if_pos c19] at H
          refine j_iload (pc := 88) dX5_considerFirst_88 rfl ?_
          refine j_if_ne (pc := 90) (tgt := 131) dX5_considerFirst_90 (by decide) (fun c20 => ?_) (fun c20 => ?_)
          · rw [if_neg c20] at H
            obtain ⟨v6_21, ev6_21, H⟩ := nm_x H
            refine j_iinc (pc := 131) (L' := [some (.ref 6), some (.int v1), some (.int v2), none, some (.int v4), some (.int v5), some (.int v6_21), none]) (w := 1) dX5_considerFirst_131 rfl (by decide) (by decide) v6_21 ev6_21 rfl ?_
            refine j_goto (pc := 134) (tgt := 63) dX5_considerFirst_134 (by decide) ?_
            refine Jx.sub (L' := [some (.ref 6), some (.int v1), some (.int v2), none, some (.int v4), some (.int v5), some (.int v6_21), none]) (⟨rfl, ⟨rfl, ⟨rfl, ⟨rfl, ⟨rfl, ⟨rfl, trivial⟩⟩⟩⟩⟩⟩) ?_
            exact ih v1 v2 v4 v5 v6_21 h H
          · rw [if_pos c20] at H
            refine Jx.sub (L' := [some (.ref 6), some (.int v1), some (.int v2), none, some (.int v4), some (.int v5), some (.int v6), none]) (⟨rfl, ⟨rfl, ⟨rfl, ⟨rfl, ⟨rfl, ⟨rfl, trivial⟩⟩⟩⟩⟩⟩) ?_
            exact jX5_considerFirst_93 _ ih v1 v2 v4 v5 v6 h H
noncomputable def fX5_considerFirst (p1 : Int32) (p2 : Int32) (p3 : Int32) (p4 : Int32) (h : HS) : Option HS := nm ((iabs p2)) (fun v5_1 => bd (fX0_isBalanced p3 h) (fun r3 h2 => if r3 = 0 then (bd (fX0_heavyAt p3 h2) (fun r6 h5 => nm (pI h5 6 9 r6) (fun h7 => bd (fX0_momentNow h7) (fun r9 h8 => nm (pI h8 6 10 r9) (fun h10 => bd (fX0_listNow h10) (fun r12 h11 => nm (pI h11 6 11 r12) (fun h13 => fX5_considerFirst_63 FU p1 p2 p4 v5_1 (0 : Int32) h13))))))) else (bv (fX5_noteFound p1 p2 (-1 : Int32) (0 : Int32) h2) (fun h14 => some h14))))
set_option maxRecDepth 100000 in
theorem tX5_considerFirst {p1 : Int32} {p2 : Int32} {p3 : Int32} {p4 : Int32} {h h0 : HS} (H : fX5_considerFirst p1 p2 p3 p4 h = some h0) : Cn skC yX5_considerFirst cX5_considerFirst 8 none 4 [.ref 6, .int p1, .int p2, .int p3, .int p4] h none h0 := by
  refine Cn_of (L := [some (.ref 6), some (.int p1), some (.int p2), some (.int p3), some (.int p4), none, none, none]) (by decide +kernel) (by simp [lg_sl, Value.category]) (fun ad => by simp [lg_sl, tv, Value.category]) (⟨rfl, ⟨rfl, ⟨rfl, ⟨rfl, ⟨rfl, trivial⟩⟩⟩⟩⟩) ?_
  unfold fX5_considerFirst at H
  refine j_iload_n (pc := 0) dX5_considerFirst_0 rfl ?_
  refine j_mabs (pc := 1) dX5_considerFirst_1 wmX5_106 (by simp [Value.category]) ?_
  obtain ⟨v5_1, ev5_1, H⟩ := nm_x H
  refine j_topi ev5_1 ?_
  refine j_istore (pc := 4) (L' := [some (.ref 6), some (.int p1), some (.int p2), some (.int p3), some (.int p4), some (.int v5_1), none, none]) dX5_considerFirst_4 (by decide) rfl ?_
  refine j_aload_n (pc := 6) dX5_considerFirst_6 rfl ?_
  refine j_getR (pc := 7) (b := 1) dX5_considerFirst_7 flX5_35 rfl ?_
  refine j_iload_n (pc := 10) dX5_considerFirst_10 rfl ?_
  obtain ⟨r3, h2, eh2, H⟩ := bd_x H
  refine j_callV (pc := 11) dX5_considerFirst_11 mlX5_122 wyX0_isBalanced (tX0_isBalanced eh2) (by decide) rfl rfl rfl rfl (by simp [Value.category]) rfl ?_
  refine j_if_eq (pc := 14) (tgt := 26) dX5_considerFirst_14 (by decide) (fun c4 => ?_) (fun c4 => ?_)
  · rw [if_pos c4] at H
    refine j_aload_n (pc := 26) dX5_considerFirst_26 rfl ?_
    refine j_aload_n (pc := 27) dX5_considerFirst_27 rfl ?_
    refine j_getR (pc := 28) (b := 1) dX5_considerFirst_28 flX5_35 rfl ?_
    refine j_iload_n (pc := 31) dX5_considerFirst_31 rfl ?_
    obtain ⟨r6, h5, eh5, H⟩ := bd_x H
    refine j_callV (pc := 32) dX5_considerFirst_32 mlX5_76 wyX0_heavyAt (tX0_heavyAt eh5) (by decide) rfl rfl rfl rfl (by simp [Value.category]) rfl ?_
    obtain ⟨h7, eh7, H⟩ := nm_x H
    refine j_putI (pc := 35) dX5_considerFirst_35 fpX5_87 rfl h7 eh7 ?_
    refine j_aload_n (pc := 38) dX5_considerFirst_38 rfl ?_
    refine j_aload_n (pc := 39) dX5_considerFirst_39 rfl ?_
    refine j_getR (pc := 40) (b := 1) dX5_considerFirst_40 flX5_35 rfl ?_
    obtain ⟨r9, h8, eh8, H⟩ := bd_x H
    refine j_callV (pc := 43) dX5_considerFirst_43 mlX5_80 wyX0_momentNow (tX0_momentNow eh8) (by decide) rfl rfl rfl rfl (by simp [Value.category]) rfl ?_
    obtain ⟨h10, eh10, H⟩ := nm_x H
    refine j_putI (pc := 46) dX5_considerFirst_46 fpX5_90 rfl h10 eh10 ?_
    refine j_aload_n (pc := 49) dX5_considerFirst_49 rfl ?_
    refine j_aload_n (pc := 50) dX5_considerFirst_50 rfl ?_
    refine j_getR (pc := 51) (b := 1) dX5_considerFirst_51 flX5_35 rfl ?_
    obtain ⟨r12, h11, eh11, H⟩ := bd_x H
    refine j_callV (pc := 54) dX5_considerFirst_54 mlX5_128 wyX0_listNow (tX0_listNow eh11) (by decide) rfl rfl rfl rfl (by simp [Value.category]) rfl ?_
    obtain ⟨h13, eh13, H⟩ := nm_x H
    refine j_putI (pc := 57) dX5_considerFirst_57 fpX5_131 rfl h13 eh13 ?_
    refine j_iconst (pc := 60) (v := 0) dX5_considerFirst_60 (by decide) ?_
    refine j_istore (pc := 61) (L' := [some (.ref 6), some (.int p1), some (.int p2), some (.int p3), some (.int p4), some (.int v5_1), some (.int (0 : Int32)), none]) dX5_considerFirst_61 (by decide) rfl ?_
    refine Jx.sub (L' := [some (.ref 6), some (.int p1), some (.int p2), none, some (.int p4), some (.int v5_1), some (.int (0 : Int32)), none]) (⟨rfl, ⟨rfl, ⟨rfl, ⟨rfl, ⟨rfl, ⟨rfl, trivial⟩⟩⟩⟩⟩⟩) ?_
    exact jX5_considerFirst_63 FU p1 p2 p4 v5_1 (0 : Int32) h13 H
  · rw [if_neg c4] at H
    refine j_aload_n (pc := 17) dX5_considerFirst_17 rfl ?_
    refine j_iload_n (pc := 18) dX5_considerFirst_18 rfl ?_
    refine j_iload_n (pc := 19) dX5_considerFirst_19 rfl ?_
    refine j_iconst (pc := 20) (v := -1) dX5_considerFirst_20 (by decide) ?_
    refine j_iconst (pc := 21) (v := 0) dX5_considerFirst_21 (by decide) ?_
    obtain ⟨h14, eh14, H⟩ := bv_x H
    refine j_callV (pc := 22) dX5_considerFirst_22 mlX5_125 wyX5_noteFound (tX5_noteFound eh14) (by decide) rfl rfl rfl rfl (by simp [Value.category]) rfl ?_
    exact j_return (pc := 25) dX5_considerFirst_25 rfl rfl (rv_2 H)

noncomputable def fX5_findTrim_75 (k14 : Int32 → Int32 → Int32 → HS → Option HS) (k26 : Int32 → Int32 → Int32 → Int32 → HS → Option HS) (v1 : Int32) (v2 : Int32) (v3 : Int32) (v4 : Int32) (h : HS) : Option HS := bd (fX5_can v3 v4 h) (fun r15 h14 => if r15 = 0 then (nm (v4 + (1 : Int32)) (fun v4_17 => k26 v1 v2 v3 v4_17 h14)) else (bv (fX5_move v3 v4 h14) (fun h18 => bv (fX5_considerFirst v3 v4 v1 v2 h18) (fun h19 => bv (fX5_move v3 ((-v4)) h19) (fun h20 => nm (v4 + (1 : Int32)) (fun v4_21 => k26 v1 v2 v3 v4_21 h20))))))
set_option maxRecDepth 100000 in
theorem jX5_findTrim_75 {h0 : HS} (k14 : Int32 → Int32 → Int32 → HS → Option HS) (k26 : Int32 → Int32 → Int32 → Int32 → HS → Option HS) (hk14 : ∀ (v1 : Int32) (v2 : Int32) (v3 : Int32) (h : HS), k14 v1 v2 v3 h = some h0 → Jx skC RX5 cX5_findTrim 6 none 5 none h0 14 [some (.ref 6), some (.int v1), some (.int v2), some (.int v3), none, none] [] h) (hk26 : ∀ (v1 : Int32) (v2 : Int32) (v3 : Int32) (v4 : Int32) (h : HS), k26 v1 v2 v3 v4 h = some h0 → Jx skC RX5 cX5_findTrim 6 none 5 none h0 26 [some (.ref 6), some (.int v1), some (.int v2), some (.int v3), some (.int v4), none] [] h) (v1 : Int32) (v2 : Int32) (v3 : Int32) (v4 : Int32) (h : HS) (H : fX5_findTrim_75 k14 k26 v1 v2 v3 v4 h = some h0) : Jx skC RX5 cX5_findTrim 6 none 5 none h0 75 [some (.ref 6), some (.int v1), some (.int v2), some (.int v3), some (.int v4), none] [] h := by
  unfold fX5_findTrim_75 at H
  refine j_aload_n (pc := 75) dX5_findTrim_75 rfl ?_
  refine j_iload_n (pc := 76) dX5_findTrim_76 rfl ?_
  refine j_iload (pc := 77) dX5_findTrim_77 rfl ?_
  obtain ⟨r15, h14, eh14, H⟩ := bd_x H
  refine j_callV (pc := 79) dX5_findTrim_79 mlX5_97 wyX5_can (tX5_can eh14) (by decide) rfl rfl rfl rfl (by simp [Value.category]) rfl ?_
  refine j_if_eq (pc := 82) (tgt := 109) dX5_findTrim_82 (by decide) (fun c16 => ?_) (fun c16 => ?_)
  · rw [if_pos c16] at H
    obtain ⟨v4_17, ev4_17, H⟩ := nm_x H
    refine j_iinc (pc := 109) (L' := [some (.ref 6), some (.int v1), some (.int v2), some (.int v3), some (.int v4_17), none]) (w := 1) dX5_findTrim_109 rfl (by decide) (by decide) v4_17 ev4_17 rfl ?_
    refine j_goto (pc := 112) (tgt := 26) dX5_findTrim_112 (by decide) ?_
    refine Jx.sub (L' := [some (.ref 6), some (.int v1), some (.int v2), some (.int v3), some (.int v4_17), none]) (⟨rfl, ⟨rfl, ⟨rfl, ⟨rfl, ⟨rfl, trivial⟩⟩⟩⟩⟩) ?_
    exact hk26 v1 v2 v3 v4_17 h14 H
  · rw [if_neg c16] at H
    refine j_aload_n (pc := 85) dX5_findTrim_85 rfl ?_
    refine j_iload_n (pc := 86) dX5_findTrim_86 rfl ?_
    refine j_iload (pc := 87) dX5_findTrim_87 rfl ?_
    obtain ⟨h18, eh18, H⟩ := bv_x H
    refine j_callV (pc := 89) dX5_findTrim_89 mlX5_114 wyX5_move (tX5_move eh18) (by decide) rfl rfl rfl rfl (by simp [Value.category]) rfl ?_
    refine j_aload_n (pc := 92) dX5_findTrim_92 rfl ?_
    refine j_iload_n (pc := 93) dX5_findTrim_93 rfl ?_
    refine j_iload (pc := 94) dX5_findTrim_94 rfl ?_
    refine j_iload_n (pc := 96) dX5_findTrim_96 rfl ?_
    refine j_iload_n (pc := 97) dX5_findTrim_97 rfl ?_
    obtain ⟨h19, eh19, H⟩ := bv_x H
    refine j_callV (pc := 98) dX5_findTrim_98 mlX5_118 wyX5_considerFirst (tX5_considerFirst eh19) (by decide) rfl rfl rfl rfl (by simp [Value.category]) rfl ?_
    refine j_aload_n (pc := 101) dX5_findTrim_101 rfl ?_
    refine j_iload_n (pc := 102) dX5_findTrim_102 rfl ?_
    refine j_iload (pc := 103) dX5_findTrim_103 rfl ?_
    refine j_ineg (pc := 105) dX5_findTrim_105 ?_
    obtain ⟨h20, eh20, H⟩ := bv_x H
    refine j_callV (pc := 106) dX5_findTrim_106 mlX5_114 wyX5_move (tX5_move eh20) (by decide) rfl rfl rfl rfl (by simp [Value.category]) rfl ?_
    obtain ⟨v4_21, ev4_21, H⟩ := nm_x H
    refine j_iinc (pc := 109) (L' := [some (.ref 6), some (.int v1), some (.int v2), some (.int v3), some (.int v4_21), none]) (w := 1) dX5_findTrim_109 rfl (by decide) (by decide) v4_21 ev4_21 rfl ?_
    refine j_goto (pc := 112) (tgt := 26) dX5_findTrim_112 (by decide) ?_
    refine Jx.sub (L' := [some (.ref 6), some (.int v1), some (.int v2), some (.int v3), some (.int v4_21), none]) (⟨rfl, ⟨rfl, ⟨rfl, ⟨rfl, ⟨rfl, trivial⟩⟩⟩⟩⟩) ?_
    exact hk26 v1 v2 v3 v4_21 h20 H
noncomputable def fX5_findTrim_55 (k14 : Int32 → Int32 → Int32 → HS → Option HS) (k26 : Int32 → Int32 → Int32 → Int32 → HS → Option HS) (v1 : Int32) (v2 : Int32) (v3 : Int32) (v4 : Int32) (s0 : Int32) (h : HS) : Option HS := if s0 = 0 then (nm (v4 + (1 : Int32)) (fun v4_9 => k26 v1 v2 v3 v4_9 h)) else (ck (inb v3 6) (if (gI h 43 v3.toNatClampNeg) = 0 then (if v2 = 0 then (fX5_findTrim_75 k14 k26 v1 v2 v3 v4 h) else (nm (v4 + (1 : Int32)) (fun v4_13 => k26 v1 v2 v3 v4_13 h))) else (fX5_findTrim_75 k14 k26 v1 v2 v3 v4 h)))
set_option maxRecDepth 100000 in
theorem jX5_findTrim_55 {h0 : HS} (k14 : Int32 → Int32 → Int32 → HS → Option HS) (k26 : Int32 → Int32 → Int32 → Int32 → HS → Option HS) (hk14 : ∀ (v1 : Int32) (v2 : Int32) (v3 : Int32) (h : HS), k14 v1 v2 v3 h = some h0 → Jx skC RX5 cX5_findTrim 6 none 5 none h0 14 [some (.ref 6), some (.int v1), some (.int v2), some (.int v3), none, none] [] h) (hk26 : ∀ (v1 : Int32) (v2 : Int32) (v3 : Int32) (v4 : Int32) (h : HS), k26 v1 v2 v3 v4 h = some h0 → Jx skC RX5 cX5_findTrim 6 none 5 none h0 26 [some (.ref 6), some (.int v1), some (.int v2), some (.int v3), some (.int v4), none] [] h) (v1 : Int32) (v2 : Int32) (v3 : Int32) (v4 : Int32) (s0 : Int32) (h : HS) (H : fX5_findTrim_55 k14 k26 v1 v2 v3 v4 s0 h = some h0) : Jx skC RX5 cX5_findTrim 6 none 5 none h0 55 [some (.ref 6), some (.int v1), some (.int v2), some (.int v3), some (.int v4), none] [.int s0] h := by
  unfold fX5_findTrim_55 at H
  refine j_istore (pc := 55) (L' := [some (.ref 6), some (.int v1), some (.int v2), some (.int v3), some (.int v4), some (.int s0)]) dX5_findTrim_55 (by decide) rfl ?_
  refine j_iload (pc := 57) dX5_findTrim_57 rfl ?_
  refine j_if_eq (pc := 59) (tgt := 109) dX5_findTrim_59 (by decide) (fun c8 => ?_) (fun c8 => ?_)
  · rw [if_pos c8] at H
    obtain ⟨v4_9, ev4_9, H⟩ := nm_x H
    refine j_iinc (pc := 109) (L' := [some (.ref 6), some (.int v1), some (.int v2), some (.int v3), some (.int v4_9), some (.int s0)]) (w := 1) dX5_findTrim_109 rfl (by decide) (by decide) v4_9 ev4_9 rfl ?_
    refine j_goto (pc := 112) (tgt := 26) dX5_findTrim_112 (by decide) ?_
    refine Jx.sub (L' := [some (.ref 6), some (.int v1), some (.int v2), some (.int v3), some (.int v4_9), none]) (⟨rfl, ⟨rfl, ⟨rfl, ⟨rfl, ⟨rfl, trivial⟩⟩⟩⟩⟩) ?_
    exact hk26 v1 v2 v3 v4_9 h H
  · rw [if_neg c8] at H
    refine j_aload_n (pc := 62) dX5_findTrim_62 rfl ?_
    refine j_getR (pc := 63) (b := 43) dX5_findTrim_63 flX5_28 rfl ?_
    refine j_iload_n (pc := 66) dX5_findTrim_66 rfl ?_
    obtain ⟨b10, H⟩ := ck_x H
    refine j_zaload (pc := 67) dX5_findTrim_67 rfl b10 rfl ?_
    refine j_if_ne (pc := 68) (tgt := 75) dX5_findTrim_68 (by decide) (fun c11 => ?_) (fun c11 => ?_)
    · rw [if_neg c11] at H
      refine Jx.sub (L' := [some (.ref 6), some (.int v1), some (.int v2), some (.int v3), some (.int v4), none]) (⟨rfl, ⟨rfl, ⟨rfl, ⟨rfl, ⟨rfl, trivial⟩⟩⟩⟩⟩) ?_
      exact jX5_findTrim_75 _ _ hk14 hk26 v1 v2 v3 v4 h H
    · rw [if_pos c11] at H
      refine j_iload_n (pc := 71) dX5_findTrim_71 rfl ?_
      refine j_if_ne (pc := 72) (tgt := 109) dX5_findTrim_72 (by decide) (fun c12 => ?_) (fun c12 => ?_)
      · rw [if_neg c12] at H
        obtain ⟨v4_13, ev4_13, H⟩ := nm_x H
        refine j_iinc (pc := 109) (L' := [some (.ref 6), some (.int v1), some (.int v2), some (.int v3), some (.int v4_13), some (.int s0)]) (w := 1) dX5_findTrim_109 rfl (by decide) (by decide) v4_13 ev4_13 rfl ?_
        refine j_goto (pc := 112) (tgt := 26) dX5_findTrim_112 (by decide) ?_
        refine Jx.sub (L' := [some (.ref 6), some (.int v1), some (.int v2), some (.int v3), some (.int v4_13), none]) (⟨rfl, ⟨rfl, ⟨rfl, ⟨rfl, ⟨rfl, trivial⟩⟩⟩⟩⟩) ?_
        exact hk26 v1 v2 v3 v4_13 h H
      · rw [if_pos c12] at H
        refine Jx.sub (L' := [some (.ref 6), some (.int v1), some (.int v2), some (.int v3), some (.int v4), none]) (⟨rfl, ⟨rfl, ⟨rfl, ⟨rfl, ⟨rfl, trivial⟩⟩⟩⟩⟩) ?_
        exact jX5_findTrim_75 _ _ hk14 hk26 v1 v2 v3 v4 h H
noncomputable def fX5_findTrim_54 (k14 : Int32 → Int32 → Int32 → HS → Option HS) (k26 : Int32 → Int32 → Int32 → Int32 → HS → Option HS) (v1 : Int32) (v2 : Int32) (v3 : Int32) (v4 : Int32) (h : HS) : Option HS := fX5_findTrim_55 k14 k26 v1 v2 v3 v4 (0 : Int32) h
set_option maxRecDepth 100000 in
theorem jX5_findTrim_54 {h0 : HS} (k14 : Int32 → Int32 → Int32 → HS → Option HS) (k26 : Int32 → Int32 → Int32 → Int32 → HS → Option HS) (hk14 : ∀ (v1 : Int32) (v2 : Int32) (v3 : Int32) (h : HS), k14 v1 v2 v3 h = some h0 → Jx skC RX5 cX5_findTrim 6 none 5 none h0 14 [some (.ref 6), some (.int v1), some (.int v2), some (.int v3), none, none] [] h) (hk26 : ∀ (v1 : Int32) (v2 : Int32) (v3 : Int32) (v4 : Int32) (h : HS), k26 v1 v2 v3 v4 h = some h0 → Jx skC RX5 cX5_findTrim 6 none 5 none h0 26 [some (.ref 6), some (.int v1), some (.int v2), some (.int v3), some (.int v4), none] [] h) (v1 : Int32) (v2 : Int32) (v3 : Int32) (v4 : Int32) (h : HS) (H : fX5_findTrim_54 k14 k26 v1 v2 v3 v4 h = some h0) : Jx skC RX5 cX5_findTrim 6 none 5 none h0 54 [some (.ref 6), some (.int v1), some (.int v2), some (.int v3), some (.int v4), none] [] h := by
  unfold fX5_findTrim_54 at H
  refine j_iconst (pc := 54) (v := 0) dX5_findTrim_54 (by decide) ?_
  refine Jx.sub (L' := [some (.ref 6), some (.int v1), some (.int v2), some (.int v3), some (.int v4), none]) (⟨rfl, ⟨rfl, ⟨rfl, ⟨rfl, ⟨rfl, trivial⟩⟩⟩⟩⟩) ?_
  exact jX5_findTrim_55 _ _ hk14 hk26 v1 v2 v3 v4 (0 : Int32) h H
noncomputable def fX5_findTrim_26 (k14 : Int32 → Int32 → Int32 → HS → Option HS) : Nat → Int32 → Int32 → Int32 → Int32 → HS → Option HS
  | 0, _, _, _, _, _ => none
  | n + 1, v1, v2, v3, v4, h => if (99 : Int32) < v4 then (nm (v3 + (1 : Int32)) (fun v3_5 => k14 v1 v2 v3_5 h)) else (if v4 = 0 then (fX5_findTrim_54 k14 (fX5_findTrim_26 k14 n) v1 v2 v3 v4 h) else (if (gI h 6 8) ≤ (iabs v4) then (fX5_findTrim_54 k14 (fX5_findTrim_26 k14 n) v1 v2 v3 v4 h) else (fX5_findTrim_55 k14 (fX5_findTrim_26 k14 n) v1 v2 v3 v4 (1 : Int32) h)))
set_option maxRecDepth 100000 in
theorem jX5_findTrim_26 {h0 : HS} (k14 : Int32 → Int32 → Int32 → HS → Option HS) (hk14 : ∀ (v1 : Int32) (v2 : Int32) (v3 : Int32) (h : HS), k14 v1 v2 v3 h = some h0 → Jx skC RX5 cX5_findTrim 6 none 5 none h0 14 [some (.ref 6), some (.int v1), some (.int v2), some (.int v3), none, none] [] h) : ∀ (n : Nat) (v1 : Int32) (v2 : Int32) (v3 : Int32) (v4 : Int32) (h : HS), fX5_findTrim_26 k14 n v1 v2 v3 v4 h = some h0 → Jx skC RX5 cX5_findTrim 6 none 5 none h0 26 [some (.ref 6), some (.int v1), some (.int v2), some (.int v3), some (.int v4), none] [] h := by
  intro n
  induction n with
  | zero => intro v1 v2 v3 v4  h H; cases H
  | succ n ih =>
    intro v1 v2 v3 v4  h H
    rw [fX5_findTrim_26] at H
    refine j_iload (pc := 26) dX5_findTrim_26 rfl ?_
    refine j_bipush (pc := 28) (v := 99) dX5_findTrim_28 (by decide) ?_
    refine j_icmp_gt (pc := 30) (tgt := 115) dX5_findTrim_30 (by decide) (fun c4 => ?_) (fun c4 => ?_)
    · rw [if_pos c4] at H
      obtain ⟨v3_5, ev3_5, H⟩ := nm_x H
      refine j_iinc (pc := 115) (L' := [some (.ref 6), some (.int v1), some (.int v2), some (.int v3_5), some (.int v4), none]) (w := 1) dX5_findTrim_115 rfl (by decide) (by decide) v3_5 ev3_5 rfl ?_
      refine j_goto (pc := 118) (tgt := 14) dX5_findTrim_118 (by decide) ?_
      refine Jx.sub (L' := [some (.ref 6), some (.int v1), some (.int v2), some (.int v3_5), none, none]) (⟨rfl, ⟨rfl, ⟨rfl, ⟨rfl, trivial⟩⟩⟩⟩) ?_
      exact hk14 v1 v2 v3_5 h H
    · rw [if_neg c4] at H
      refine j_iload (pc := 33) dX5_findTrim_33 rfl ?_
      refine j_if_eq (pc := 35) (tgt := 54) dX5_findTrim_35 (by decide) (fun c6 => ?_) (fun c6 => ?_)
      · rw [if_pos c6] at H
        refine Jx.sub (L' := [some (.ref 6), some (.int v1), some (.int v2), some (.int v3), some (.int v4), none]) (⟨rfl, ⟨rfl, ⟨rfl, ⟨rfl, ⟨rfl, trivial⟩⟩⟩⟩⟩) ?_
        exact jX5_findTrim_54 _ _ hk14 ih v1 v2 v3 v4 h H
      · rw [if_neg c6] at H
        refine j_iload (pc := 38) dX5_findTrim_38 rfl ?_
        refine j_mabs (pc := 40) dX5_findTrim_40 wmX5_106 (by simp [Value.category]) ?_
        refine j_aload_n (pc := 43) dX5_findTrim_43 rfl ?_
        refine j_getI (pc := 44) dX5_findTrim_44 flX5_84 rfl ?_
        refine j_icmp_ge (pc := 47) (tgt := 54) dX5_findTrim_47 (by decide) (fun c7 => ?_) (fun c7 => ?_)
        · rw [if_pos c7] at H
          refine Jx.sub (L' := [some (.ref 6), some (.int v1), some (.int v2), some (.int v3), some (.int v4), none]) (⟨rfl, ⟨rfl, ⟨rfl, ⟨rfl, ⟨rfl, trivial⟩⟩⟩⟩⟩) ?_
          exact jX5_findTrim_54 _ _ hk14 ih v1 v2 v3 v4 h H
        · rw [if_neg c7] at H
          refine j_iconst (pc := 50) (v := 1) dX5_findTrim_50 (by decide) ?_
          refine j_goto (pc := 51) (tgt := 55) dX5_findTrim_51 (by decide) ?_
          refine Jx.sub (L' := [some (.ref 6), some (.int v1), some (.int v2), some (.int v3), some (.int v4), none]) (⟨rfl, ⟨rfl, ⟨rfl, ⟨rfl, ⟨rfl, trivial⟩⟩⟩⟩⟩) ?_
          exact jX5_findTrim_55 _ _ hk14 ih v1 v2 v3 v4 (1 : Int32) h H
noncomputable def fX5_findTrim_14 : Nat → Int32 → Int32 → Int32 → HS → Option HS
  | 0, _, _, _, _ => none
  | n + 1, v1, v2, v3, h => if (gI h 6 3) ≤ v3 then (some h) else (fX5_findTrim_26 (fX5_findTrim_14 n) FU v1 v2 v3 (-99 : Int32) h)
set_option maxRecDepth 100000 in
theorem jX5_findTrim_14 {h0 : HS} : ∀ (n : Nat) (v1 : Int32) (v2 : Int32) (v3 : Int32) (h : HS), fX5_findTrim_14 n v1 v2 v3 h = some h0 → Jx skC RX5 cX5_findTrim 6 none 5 none h0 14 [some (.ref 6), some (.int v1), some (.int v2), some (.int v3), none, none] [] h := by
  intro n
  induction n with
  | zero => intro v1 v2 v3  h H; cases H
  | succ n ih =>
    intro v1 v2 v3  h H
    rw [fX5_findTrim_14] at H
    refine j_iload_n (pc := 14) dX5_findTrim_14 rfl ?_
    refine j_aload_n (pc := 15) dX5_findTrim_15 rfl ?_
    refine j_getI (pc := 16) dX5_findTrim_16 flX5_46 rfl ?_
    refine j_icmp_ge (pc := 19) (tgt := 121) dX5_findTrim_19 (by decide) (fun c3 => ?_) (fun c3 => ?_)
    · rw [if_pos c3] at H
      exact j_return (pc := 121) dX5_findTrim_121 rfl rfl (rv_2 H)
    · rw [if_neg c3] at H
      refine j_bipush (pc := 22) (v := -99) dX5_findTrim_22 (by decide) ?_
      refine j_istore (pc := 24) (L' := [some (.ref 6), some (.int v1), some (.int v2), some (.int v3), some (.int (-99 : Int32)), none]) dX5_findTrim_24 (by decide) rfl ?_
      refine Jx.sub (L' := [some (.ref 6), some (.int v1), some (.int v2), some (.int v3), some (.int (-99 : Int32)), none]) (⟨rfl, ⟨rfl, ⟨rfl, ⟨rfl, ⟨rfl, trivial⟩⟩⟩⟩⟩) ?_
      exact jX5_findTrim_26 _ ih FU v1 v2 v3 (-99 : Int32) h H
noncomputable def fX5_findTrim (p1 : Int32) (p2 : Int32) (h : HS) : Option HS := nm (pI h 6 13 (0 : Int32)) (fun h1 => nm (pI h1 6 8 (199 : Int32)) (fun h2 => fX5_findTrim_14 FU p1 p2 (0 : Int32) h2))
set_option maxRecDepth 100000 in
theorem tX5_findTrim {p1 : Int32} {p2 : Int32} {h h0 : HS} (H : fX5_findTrim p1 p2 h = some h0) : Cn skC yX5_findTrim cX5_findTrim 6 none 5 [.ref 6, .int p1, .int p2] h none h0 := by
  refine Cn_of (L := [some (.ref 6), some (.int p1), some (.int p2), none, none, none]) (by decide +kernel) (by simp [lg_sl, Value.category]) (fun ad => by simp [lg_sl, tv, Value.category]) (⟨rfl, ⟨rfl, ⟨rfl, trivial⟩⟩⟩) ?_
  unfold fX5_findTrim at H
  refine j_aload_n (pc := 0) dX5_findTrim_0 rfl ?_
  refine j_iconst (pc := 1) (v := 0) dX5_findTrim_1 (by decide) ?_
  obtain ⟨h1, eh1, H⟩ := nm_x H
  refine j_putI (pc := 2) dX5_findTrim_2 fpX5_111 rfl h1 eh1 ?_
  refine j_aload_n (pc := 5) dX5_findTrim_5 rfl ?_
  refine j_sipush (pc := 6) (v := 199) dX5_findTrim_6 (by decide) ?_
  obtain ⟨h2, eh2, H⟩ := nm_x H
  refine j_putI (pc := 9) dX5_findTrim_9 fpX5_84 rfl h2 eh2 ?_
  refine j_iconst (pc := 12) (v := 0) dX5_findTrim_12 (by decide) ?_
  refine j_istore_n (pc := 13) (L' := [some (.ref 6), some (.int p1), some (.int p2), some (.int (0 : Int32)), none, none]) dX5_findTrim_13 (by decide) rfl ?_
  refine Jx.sub (L' := [some (.ref 6), some (.int p1), some (.int p2), some (.int (0 : Int32)), none, none]) (⟨rfl, ⟨rfl, ⟨rfl, ⟨rfl, trivial⟩⟩⟩⟩) ?_
  exact jX5_findTrim_14 FU p1 p2 (0 : Int32) h2 H
