theorem dX8_goDay_0 : decode cX8_goDay 0 = .ok (.iconst 0, 1) := by decide +kernel
theorem dX8_goDay_1 : decode cX8_goDay 1 = .ok (.istore_n 1, 1) := by decide +kernel
theorem dX8_goDay_2 : decode cX8_goDay 2 = .ok (.iconst 0, 1) := by decide +kernel
theorem dX8_goDay_3 : decode cX8_goDay 3 = .ok (.istore_n 2, 1) := by decide +kernel
theorem dX8_goDay_4 : decode cX8_goDay 4 = .ok (.iload_n 2, 1) := by decide +kernel
theorem dX8_goDay_5 : decode cX8_goDay 5 = .ok (.aload_n 0, 1) := by decide +kernel
theorem dX8_goDay_6 : decode cX8_goDay 6 = .ok (.getfield 31, 3) := by decide +kernel
theorem dX8_goDay_9 : decode cX8_goDay 9 = .ok (.getfield 32, 3) := by decide +kernel
theorem dX8_goDay_12 : decode cX8_goDay 12 = .ok (.if_icmp .ge 88, 3) := by decide +kernel
theorem dX8_goDay_15 : decode cX8_goDay 15 = .ok (.aload_n 0, 1) := by decide +kernel
theorem dX8_goDay_16 : decode cX8_goDay 16 = .ok (.getfield 31, 3) := by decide +kernel
theorem dX8_goDay_19 : decode cX8_goDay 19 = .ok (.getfield 38, 3) := by decide +kernel
theorem dX8_goDay_22 : decode cX8_goDay 22 = .ok (.iload_n 2, 1) := by decide +kernel
theorem dX8_goDay_23 : decode cX8_goDay 23 = .ok (.iaload, 1) := by decide +kernel
theorem dX8_goDay_24 : decode cX8_goDay 24 = .ok (.iconst 1, 1) := by decide +kernel
theorem dX8_goDay_25 : decode cX8_goDay 25 = .ok (.if_icmp .ne 24, 3) := by decide +kernel
theorem dX8_goDay_28 : decode cX8_goDay 28 = .ok (.aload_n 0, 1) := by decide +kernel
theorem dX8_goDay_29 : decode cX8_goDay 29 = .ok (.getfield 9, 3) := by decide +kernel
theorem dX8_goDay_32 : decode cX8_goDay 32 = .ok (.iload_n 2, 1) := by decide +kernel
theorem dX8_goDay_33 : decode cX8_goDay 33 = .ok (.iaload, 1) := by decide +kernel
theorem dX8_goDay_34 : decode cX8_goDay 34 = .ok (.aload_n 0, 1) := by decide +kernel
theorem dX8_goDay_35 : decode cX8_goDay 35 = .ok (.getfield 31, 3) := by decide +kernel
theorem dX8_goDay_38 : decode cX8_goDay 38 = .ok (.getfield 41, 3) := by decide +kernel
theorem dX8_goDay_41 : decode cX8_goDay 41 = .ok (.iload_n 2, 1) := by decide +kernel
theorem dX8_goDay_42 : decode cX8_goDay 42 = .ok (.iaload, 1) := by decide +kernel
theorem dX8_goDay_43 : decode cX8_goDay 43 = .ok (.invokestatic 44, 3) := by decide +kernel
theorem dX8_goDay_46 : decode cX8_goDay 46 = .ok (.goto 4, 3) := by decide +kernel
theorem dX8_goDay_49 : decode cX8_goDay 49 = .ok (.iconst 0, 1) := by decide +kernel
theorem dX8_goDay_50 : decode cX8_goDay 50 = .ok (.istore_n 3, 1) := by decide +kernel
theorem dX8_goDay_51 : decode cX8_goDay 51 = .ok (.iload_n 3, 1) := by decide +kernel
theorem dX8_goDay_52 : decode cX8_goDay 52 = .ok (.ifCond .le 42, 3) := by decide +kernel
theorem dX8_goDay_55 : decode cX8_goDay 55 = .ok (.iconst 1, 1) := by decide +kernel
theorem dX8_goDay_56 : decode cX8_goDay 56 = .ok (.istore_n 1, 1) := by decide +kernel
theorem dX8_goDay_57 : decode cX8_goDay 57 = .ok (.aload_n 0, 1) := by decide +kernel
theorem dX8_goDay_58 : decode cX8_goDay 58 = .ok (.getfield 31, 3) := by decide +kernel
theorem dX8_goDay_61 : decode cX8_goDay 61 = .ok (.getfield 41, 3) := by decide +kernel
theorem dX8_goDay_64 : decode cX8_goDay 64 = .ok (.iload_n 2, 1) := by decide +kernel
theorem dX8_goDay_65 : decode cX8_goDay 65 = .ok (.dup2, 1) := by decide +kernel
theorem dX8_goDay_66 : decode cX8_goDay 66 = .ok (.iaload, 1) := by decide +kernel
theorem dX8_goDay_67 : decode cX8_goDay 67 = .ok (.iload_n 3, 1) := by decide +kernel
theorem dX8_goDay_68 : decode cX8_goDay 68 = .ok (.isub, 1) := by decide +kernel
theorem dX8_goDay_69 : decode cX8_goDay 69 = .ok (.iastore, 1) := by decide +kernel
theorem dX8_goDay_70 : decode cX8_goDay 70 = .ok (.aload_n 0, 1) := by decide +kernel
theorem dX8_goDay_71 : decode cX8_goDay 71 = .ok (.getfield 31, 3) := by decide +kernel
theorem dX8_goDay_74 : decode cX8_goDay 74 = .ok (.aload_n 0, 1) := by decide +kernel
theorem dX8_goDay_75 : decode cX8_goDay 75 = .ok (.getfield 18, 3) := by decide +kernel
theorem dX8_goDay_78 : decode cX8_goDay 78 = .ok (.iload_n 2, 1) := by decide +kernel
theorem dX8_goDay_79 : decode cX8_goDay 79 = .ok (.iaload, 1) := by decide +kernel
theorem dX8_goDay_80 : decode cX8_goDay 80 = .ok (.iload_n 3, 1) := by decide +kernel
theorem dX8_goDay_81 : decode cX8_goDay 81 = .ok (.aload_n 0, 1) := by decide +kernel
theorem dX8_goDay_82 : decode cX8_goDay 82 = .ok (.getfield 15, 3) := by decide +kernel
theorem dX8_goDay_85 : decode cX8_goDay 85 = .ok (.iload_n 2, 1) := by decide +kernel
theorem dX8_goDay_86 : decode cX8_goDay 86 = .ok (.iaload, 1) := by decide +kernel
theorem dX8_goDay_87 : decode cX8_goDay 87 = .ok (.imul, 1) := by decide +kernel
theorem dX8_goDay_88 : decode cX8_goDay 88 = .ok (.bipush 100, 2) := by decide +kernel
theorem dX8_goDay_90 : decode cX8_goDay 90 = .ok (.idiv, 1) := by decide +kernel
theorem dX8_goDay_91 : decode cX8_goDay 91 = .ok (.invokevirtual 50, 3) := by decide +kernel
theorem dX8_goDay_94 : decode cX8_goDay 94 = .ok (.iinc 2 1, 3) := by decide +kernel
theorem dX8_goDay_97 : decode cX8_goDay 97 = .ok (.goto (-93), 3) := by decide +kernel
theorem dX8_goDay_100 : decode cX8_goDay 100 = .ok (.aload_n 0, 1) := by decide +kernel
theorem dX8_goDay_101 : decode cX8_goDay 101 = .ok (.getfield 21, 3) := by decide +kernel
theorem dX8_goDay_104 : decode cX8_goDay 104 = .ok (.dup, 1) := by decide +kernel
theorem dX8_goDay_105 : decode cX8_goDay 105 = .ok (.getfield 54, 3) := by decide +kernel
theorem dX8_goDay_108 : decode cX8_goDay 108 = .ok (.iconst 1, 1) := by decide +kernel
theorem dX8_goDay_109 : decode cX8_goDay 109 = .ok (.iadd, 1) := by decide +kernel
theorem dX8_goDay_110 : decode cX8_goDay 110 = .ok (.putfield 54, 3) := by decide +kernel
theorem dX8_goDay_113 : decode cX8_goDay 113 = .ok (.iload_n 1, 1) := by decide +kernel
theorem dX8_goDay_114 : decode cX8_goDay 114 = .ok (.ireturn, 1) := by decide +kernel
theorem dX8_emptyOnes_0 : decode cX8_emptyOnes 0 = .ok (.iconst 0, 1) := by decide +kernel
theorem dX8_emptyOnes_1 : decode cX8_emptyOnes 1 = .ok (.istore_n 1, 1) := by decide +kernel
theorem dX8_emptyOnes_2 : decode cX8_emptyOnes 2 = .ok (.iconst 0, 1) := by decide +kernel
theorem dX8_emptyOnes_3 : decode cX8_emptyOnes 3 = .ok (.istore_n 2, 1) := by decide +kernel
theorem dX8_emptyOnes_4 : decode cX8_emptyOnes 4 = .ok (.iload_n 2, 1) := by decide +kernel
theorem dX8_emptyOnes_5 : decode cX8_emptyOnes 5 = .ok (.aload_n 0, 1) := by decide +kernel
theorem dX8_emptyOnes_6 : decode cX8_emptyOnes 6 = .ok (.getfield 31, 3) := by decide +kernel
theorem dX8_emptyOnes_9 : decode cX8_emptyOnes 9 = .ok (.getfield 32, 3) := by decide +kernel
theorem dX8_emptyOnes_12 : decode cX8_emptyOnes 12 = .ok (.if_icmp .ge 42, 3) := by decide +kernel
theorem dX8_emptyOnes_15 : decode cX8_emptyOnes 15 = .ok (.iload_n 1, 1) := by decide +kernel
theorem dX8_emptyOnes_16 : decode cX8_emptyOnes 16 = .ok (.aload_n 0, 1) := by decide +kernel
theorem dX8_emptyOnes_17 : decode cX8_emptyOnes 17 = .ok (.getfield 31, 3) := by decide +kernel
theorem dX8_emptyOnes_20 : decode cX8_emptyOnes 20 = .ok (.getfield 38, 3) := by decide +kernel
theorem dX8_emptyOnes_23 : decode cX8_emptyOnes 23 = .ok (.iload_n 2, 1) := by decide +kernel
theorem dX8_emptyOnes_24 : decode cX8_emptyOnes 24 = .ok (.iaload, 1) := by decide +kernel
theorem dX8_emptyOnes_25 : decode cX8_emptyOnes 25 = .ok (.iconst 1, 1) := by decide +kernel
theorem dX8_emptyOnes_26 : decode cX8_emptyOnes 26 = .ok (.if_icmp .ne 19, 3) := by decide +kernel
theorem dX8_emptyOnes_29 : decode cX8_emptyOnes 29 = .ok (.aload_n 0, 1) := by decide +kernel
theorem dX8_emptyOnes_30 : decode cX8_emptyOnes 30 = .ok (.getfield 31, 3) := by decide +kernel
theorem dX8_emptyOnes_33 : decode cX8_emptyOnes 33 = .ok (.getfield 41, 3) := by decide +kernel
theorem dX8_emptyOnes_36 : decode cX8_emptyOnes 36 = .ok (.iload_n 2, 1) := by decide +kernel
theorem dX8_emptyOnes_37 : decode cX8_emptyOnes 37 = .ok (.iaload, 1) := by decide +kernel
theorem dX8_emptyOnes_38 : decode cX8_emptyOnes 38 = .ok (.ifCond .ne 7, 3) := by decide +kernel
theorem dX8_emptyOnes_41 : decode cX8_emptyOnes 41 = .ok (.iconst 1, 1) := by decide +kernel
theorem dX8_emptyOnes_42 : decode cX8_emptyOnes 42 = .ok (.goto 4, 3) := by decide +kernel
theorem dX8_emptyOnes_45 : decode cX8_emptyOnes 45 = .ok (.iconst 0, 1) := by decide +kernel
theorem dX8_emptyOnes_46 : decode cX8_emptyOnes 46 = .ok (.iadd, 1) := by decide +kernel
theorem dX8_emptyOnes_47 : decode cX8_emptyOnes 47 = .ok (.istore_n 1, 1) := by decide +kernel
theorem dX8_emptyOnes_48 : decode cX8_emptyOnes 48 = .ok (.iinc 2 1, 3) := by decide +kernel
theorem dX8_emptyOnes_51 : decode cX8_emptyOnes 51 = .ok (.goto (-47), 3) := by decide +kernel
theorem dX8_emptyOnes_54 : decode cX8_emptyOnes 54 = .ok (.iload_n 1, 1) := by decide +kernel
theorem dX8_emptyOnes_55 : decode cX8_emptyOnes 55 = .ok (.ireturn, 1) := by decide +kernel
theorem dX8_daysInReach_0 : decode cX8_daysInReach 0 = .ok (.aload_n 0, 1) := by decide +kernel
theorem dX8_daysInReach_1 : decode cX8_daysInReach 1 = .ok (.getfield 21, 3) := by decide +kernel
theorem dX8_daysInReach_4 : decode cX8_daysInReach 4 = .ok (.getfield 54, 3) := by decide +kernel
theorem dX8_daysInReach_7 : decode cX8_daysInReach 7 = .ok (.istore_n 2, 1) := by decide +kernel
theorem dX8_daysInReach_8 : decode cX8_daysInReach 8 = .ok (.aload_n 0, 1) := by decide +kernel
theorem dX8_daysInReach_9 : decode cX8_daysInReach 9 = .ok (.getfield 31, 3) := by decide +kernel
theorem dX8_daysInReach_12 : decode cX8_daysInReach 12 = .ok (.invokevirtual 57, 3) := by decide +kernel
theorem dX8_daysInReach_15 : decode cX8_daysInReach 15 = .ok (.bipush (-2), 2) := by decide +kernel
theorem dX8_daysInReach_17 : decode cX8_daysInReach 17 = .ok (.istore_n 3, 1) := by decide +kernel
theorem dX8_daysInReach_18 : decode cX8_daysInReach 18 = .ok (.iconst 1, 1) := by decide +kernel
theorem dX8_daysInReach_19 : decode cX8_daysInReach 19 = .ok (.istore 4, 2) := by decide +kernel
theorem dX8_daysInReach_21 : decode cX8_daysInReach 21 = .ok (.iconst 0, 1) := by decide +kernel
theorem dX8_daysInReach_22 : decode cX8_daysInReach 22 = .ok (.istore 5, 2) := by decide +kernel
theorem dX8_daysInReach_24 : decode cX8_daysInReach 24 = .ok (.iload 5, 2) := by decide +kernel
theorem dX8_daysInReach_26 : decode cX8_daysInReach 26 = .ok (.sipush 400, 3) := by decide +kernel
theorem dX8_daysInReach_29 : decode cX8_daysInReach 29 = .ok (.if_icmp .gt 40, 3) := by decide +kernel
theorem dX8_daysInReach_32 : decode cX8_daysInReach 32 = .ok (.iload 4, 2) := by decide +kernel
theorem dX8_daysInReach_34 : decode cX8_daysInReach 34 = .ok (.ifCond .eq 35, 3) := by decide +kernel
theorem dX8_daysInReach_37 : decode cX8_daysInReach 37 = .ok (.aload_n 0, 1) := by decide +kernel
theorem dX8_daysInReach_38 : decode cX8_daysInReach 38 = .ok (.getfield 21, 3) := by decide +kernel
theorem dX8_daysInReach_41 : decode cX8_daysInReach 41 = .ok (.iload_n 1, 1) := by decide +kernel
theorem dX8_daysInReach_42 : decode cX8_daysInReach 42 = .ok (.invokevirtual 60, 3) := by decide +kernel
theorem dX8_daysInReach_45 : decode cX8_daysInReach 45 = .ok (.ifCond .ne 12, 3) := by decide +kernel
theorem dX8_daysInReach_48 : decode cX8_daysInReach 48 = .ok (.iload 5, 2) := by decide +kernel
theorem dX8_daysInReach_50 : decode cX8_daysInReach 50 = .ok (.istore_n 3, 1) := by decide +kernel
theorem dX8_daysInReach_51 : decode cX8_daysInReach 51 = .ok (.iconst 0, 1) := by decide +kernel
theorem dX8_daysInReach_52 : decode cX8_daysInReach 52 = .ok (.istore 4, 2) := by decide +kernel
theorem dX8_daysInReach_54 : decode cX8_daysInReach 54 = .ok (.goto 9, 3) := by decide +kernel
theorem dX8_daysInReach_57 : decode cX8_daysInReach 57 = .ok (.aload_n 0, 1) := by decide +kernel
theorem dX8_daysInReach_58 : decode cX8_daysInReach 58 = .ok (.invokevirtual 64, 3) := by decide +kernel
theorem dX8_daysInReach_61 : decode cX8_daysInReach 61 = .ok (.istore 4, 2) := by decide +kernel
theorem dX8_daysInReach_63 : decode cX8_daysInReach 63 = .ok (.iinc 5 1, 3) := by decide +kernel
theorem dX8_daysInReach_66 : decode cX8_daysInReach 66 = .ok (.goto (-42), 3) := by decide +kernel
theorem dX8_daysInReach_69 : decode cX8_daysInReach 69 = .ok (.aload_n 0, 1) := by decide +kernel
theorem dX8_daysInReach_70 : decode cX8_daysInReach 70 = .ok (.getfield 31, 3) := by decide +kernel
theorem dX8_daysInReach_73 : decode cX8_daysInReach 73 = .ok (.invokevirtual 68, 3) := by decide +kernel
theorem dX8_daysInReach_76 : decode cX8_daysInReach 76 = .ok (.aload_n 0, 1) := by decide +kernel
theorem dX8_daysInReach_77 : decode cX8_daysInReach 77 = .ok (.getfield 21, 3) := by decide +kernel
theorem dX8_daysInReach_80 : decode cX8_daysInReach 80 = .ok (.iload_n 2, 1) := by decide +kernel
theorem dX8_daysInReach_81 : decode cX8_daysInReach 81 = .ok (.putfield 54, 3) := by decide +kernel
theorem dX8_daysInReach_84 : decode cX8_daysInReach 84 = .ok (.iload_n 3, 1) := by decide +kernel
theorem dX8_daysInReach_85 : decode cX8_daysInReach 85 = .ok (.ireturn, 1) := by decide +kernel
theorem dX8_canShift_0 : decode cX8_canShift 0 = .ok (.aload_n 0, 1) := by decide +kernel
theorem dX8_canShift_1 : decode cX8_canShift 1 = .ok (.getfield 31, 3) := by decide +kernel
theorem dX8_canShift_4 : decode cX8_canShift 4 = .ok (.iload_n 1, 1) := by decide +kernel
theorem dX8_canShift_5 : decode cX8_canShift 5 = .ok (.iconst 1, 1) := by decide +kernel
theorem dX8_canShift_6 : decode cX8_canShift 6 = .ok (.invokevirtual 82, 3) := by decide +kernel
theorem dX8_canShift_9 : decode cX8_canShift 9 = .ok (.ifCond .eq 51, 3) := by decide +kernel
theorem dX8_canShift_12 : decode cX8_canShift 12 = .ok (.aload_n 0, 1) := by decide +kernel
theorem dX8_canShift_13 : decode cX8_canShift 13 = .ok (.getfield 31, 3) := by decide +kernel
theorem dX8_canShift_16 : decode cX8_canShift 16 = .ok (.iload_n 2, 1) := by decide +kernel
theorem dX8_canShift_17 : decode cX8_canShift 17 = .ok (.iconst 1, 1) := by decide +kernel
theorem dX8_canShift_18 : decode cX8_canShift 18 = .ok (.invokevirtual 82, 3) := by decide +kernel
theorem dX8_canShift_21 : decode cX8_canShift 21 = .ok (.ifCond .eq 39, 3) := by decide +kernel
theorem dX8_canShift_24 : decode cX8_canShift 24 = .ok (.aload_n 0, 1) := by decide +kernel
theorem dX8_canShift_25 : decode cX8_canShift 25 = .ok (.getfield 31, 3) := by decide +kernel
theorem dX8_canShift_28 : decode cX8_canShift 28 = .ok (.getfield 41, 3) := by decide +kernel
theorem dX8_canShift_31 : decode cX8_canShift 31 = .ok (.iload_n 1, 1) := by decide +kernel
theorem dX8_canShift_32 : decode cX8_canShift 32 = .ok (.iaload, 1) := by decide +kernel
theorem dX8_canShift_33 : decode cX8_canShift 33 = .ok (.ifCond .le 27, 3) := by decide +kernel
theorem dX8_canShift_36 : decode cX8_canShift 36 = .ok (.aload_n 0, 1) := by decide +kernel
theorem dX8_canShift_37 : decode cX8_canShift 37 = .ok (.getfield 31, 3) := by decide +kernel
theorem dX8_canShift_40 : decode cX8_canShift 40 = .ok (.iload_n 2, 1) := by decide +kernel
theorem dX8_canShift_41 : decode cX8_canShift 41 = .ok (.invokevirtual 85, 3) := by decide +kernel
theorem dX8_canShift_44 : decode cX8_canShift 44 = .ok (.aload_n 0, 1) := by decide +kernel
theorem dX8_canShift_45 : decode cX8_canShift 45 = .ok (.getfield 31, 3) := by decide +kernel
theorem dX8_canShift_48 : decode cX8_canShift 48 = .ok (.getfield 41, 3) := by decide +kernel
theorem dX8_canShift_51 : decode cX8_canShift 51 = .ok (.iload_n 1, 1) := by decide +kernel
theorem dX8_canShift_52 : decode cX8_canShift 52 = .ok (.iaload, 1) := by decide +kernel
theorem dX8_canShift_53 : decode cX8_canShift 53 = .ok (.if_icmp .lt 7, 3) := by decide +kernel
theorem dX8_canShift_56 : decode cX8_canShift 56 = .ok (.iconst 1, 1) := by decide +kernel
theorem dX8_canShift_57 : decode cX8_canShift 57 = .ok (.goto 4, 3) := by decide +kernel
theorem dX8_canShift_60 : decode cX8_canShift 60 = .ok (.iconst 0, 1) := by decide +kernel
theorem dX8_canShift_61 : decode cX8_canShift 61 = .ok (.ireturn, 1) := by decide +kernel
theorem dX8_considerShift_0 : decode cX8_considerShift 0 = .ok (.aload_n 0, 1) := by decide +kernel
theorem dX8_considerShift_1 : decode cX8_considerShift 1 = .ok (.getfield 31, 3) := by decide +kernel
theorem dX8_considerShift_4 : decode cX8_considerShift 4 = .ok (.getfield 41, 3) := by decide +kernel
theorem dX8_considerShift_7 : decode cX8_considerShift 7 = .ok (.iload_n 1, 1) := by decide +kernel
theorem dX8_considerShift_8 : decode cX8_considerShift 8 = .ok (.iaload, 1) := by decide +kernel
theorem dX8_considerShift_9 : decode cX8_considerShift 9 = .ok (.istore 4, 2) := by decide +kernel
theorem dX8_considerShift_11 : decode cX8_considerShift 11 = .ok (.aload_n 0, 1) := by decide +kernel
theorem dX8_considerShift_12 : decode cX8_considerShift 12 = .ok (.getfield 31, 3) := by decide +kernel
theorem dX8_considerShift_15 : decode cX8_considerShift 15 = .ok (.getfield 41, 3) := by decide +kernel
theorem dX8_considerShift_18 : decode cX8_considerShift 18 = .ok (.iload_n 1, 1) := by decide +kernel
theorem dX8_considerShift_19 : decode cX8_considerShift 19 = .ok (.iconst 0, 1) := by decide +kernel
theorem dX8_considerShift_20 : decode cX8_considerShift 20 = .ok (.iastore, 1) := by decide +kernel
theorem dX8_considerShift_21 : decode cX8_considerShift 21 = .ok (.aload_n 0, 1) := by decide +kernel
theorem dX8_considerShift_22 : decode cX8_considerShift 22 = .ok (.getfield 31, 3) := by decide +kernel
theorem dX8_considerShift_25 : decode cX8_considerShift 25 = .ok (.getfield 41, 3) := by decide +kernel
theorem dX8_considerShift_28 : decode cX8_considerShift 28 = .ok (.iload_n 2, 1) := by decide +kernel
theorem dX8_considerShift_29 : decode cX8_considerShift 29 = .ok (.dup2, 1) := by decide +kernel
theorem dX8_considerShift_30 : decode cX8_considerShift 30 = .ok (.iaload, 1) := by decide +kernel
theorem dX8_considerShift_31 : decode cX8_considerShift 31 = .ok (.iload 4, 2) := by decide +kernel
theorem dX8_considerShift_33 : decode cX8_considerShift 33 = .ok (.iadd, 1) := by decide +kernel
theorem dX8_considerShift_34 : decode cX8_considerShift 34 = .ok (.iastore, 1) := by decide +kernel
theorem dX8_considerShift_35 : decode cX8_considerShift 35 = .ok (.aload_n 0, 1) := by decide +kernel
theorem dX8_considerShift_36 : decode cX8_considerShift 36 = .ok (.iload_n 3, 1) := by decide +kernel
theorem dX8_considerShift_37 : decode cX8_considerShift 37 = .ok (.invokevirtual 89, 3) := by decide +kernel
theorem dX8_considerShift_40 : decode cX8_considerShift 40 = .ok (.istore 5, 2) := by decide +kernel
theorem dX8_considerShift_42 : decode cX8_considerShift 42 = .ok (.aload_n 0, 1) := by decide +kernel
theorem dX8_considerShift_43 : decode cX8_considerShift 43 = .ok (.getfield 31, 3) := by decide +kernel
theorem dX8_considerShift_46 : decode cX8_considerShift 46 = .ok (.getfield 41, 3) := by decide +kernel
theorem dX8_considerShift_49 : decode cX8_considerShift 49 = .ok (.iload_n 1, 1) := by decide +kernel
theorem dX8_considerShift_50 : decode cX8_considerShift 50 = .ok (.iload 4, 2) := by decide +kernel
theorem dX8_considerShift_52 : decode cX8_considerShift 52 = .ok (.iastore, 1) := by decide +kernel
theorem dX8_considerShift_53 : decode cX8_considerShift 53 = .ok (.aload_n 0, 1) := by decide +kernel
theorem dX8_considerShift_54 : decode cX8_considerShift 54 = .ok (.getfield 31, 3) := by decide +kernel
theorem dX8_considerShift_57 : decode cX8_considerShift 57 = .ok (.getfield 41, 3) := by decide +kernel
theorem dX8_considerShift_60 : decode cX8_considerShift 60 = .ok (.iload_n 2, 1) := by decide +kernel
theorem dX8_considerShift_61 : decode cX8_considerShift 61 = .ok (.dup2, 1) := by decide +kernel
theorem dX8_considerShift_62 : decode cX8_considerShift 62 = .ok (.iaload, 1) := by decide +kernel
theorem dX8_considerShift_63 : decode cX8_considerShift 63 = .ok (.iload 4, 2) := by decide +kernel
theorem dX8_considerShift_65 : decode cX8_considerShift 65 = .ok (.isub, 1) := by decide +kernel
theorem dX8_considerShift_66 : decode cX8_considerShift 66 = .ok (.iastore, 1) := by decide +kernel
theorem dX8_considerShift_67 : decode cX8_considerShift 67 = .ok (.iload 5, 2) := by decide +kernel
theorem dX8_considerShift_69 : decode cX8_considerShift 69 = .ok (.bipush (-2), 2) := by decide +kernel
theorem dX8_considerShift_71 : decode cX8_considerShift 71 = .ok (.if_icmp .ne 9, 3) := by decide +kernel
theorem dX8_considerShift_74 : decode cX8_considerShift 74 = .ok (.sipush 401, 3) := by decide +kernel
theorem dX8_considerShift_77 : decode cX8_considerShift 77 = .ok (.goto 5, 3) := by decide +kernel
theorem dX8_considerShift_80 : decode cX8_considerShift 80 = .ok (.iload 5, 2) := by decide +kernel
theorem dX8_considerShift_82 : decode cX8_considerShift 82 = .ok (.istore 6, 2) := by decide +kernel
theorem dX8_considerShift_84 : decode cX8_considerShift 84 = .ok (.iload 6, 2) := by decide +kernel
theorem dX8_considerShift_86 : decode cX8_considerShift 86 = .ok (.aload_n 0, 1) := by decide +kernel
theorem dX8_considerShift_87 : decode cX8_considerShift 87 = .ok (.getfield 71, 3) := by decide +kernel
theorem dX8_considerShift_90 : decode cX8_considerShift 90 = .ok (.if_icmp .le 19, 3) := by decide +kernel
theorem dX8_considerShift_93 : decode cX8_considerShift 93 = .ok (.aload_n 0, 1) := by decide +kernel
theorem dX8_considerShift_94 : decode cX8_considerShift 94 = .ok (.iload 6, 2) := by decide +kernel
theorem dX8_considerShift_96 : decode cX8_considerShift 96 = .ok (.putfield 71, 3) := by decide +kernel
theorem dX8_considerShift_99 : decode cX8_considerShift 99 = .ok (.aload_n 0, 1) := by decide +kernel
theorem dX8_considerShift_100 : decode cX8_considerShift 100 = .ok (.iload_n 1, 1) := by decide +kernel
theorem dX8_considerShift_101 : decode cX8_considerShift 101 = .ok (.putfield 92, 3) := by decide +kernel
theorem dX8_considerShift_104 : decode cX8_considerShift 104 = .ok (.aload_n 0, 1) := by decide +kernel
theorem dX8_considerShift_105 : decode cX8_considerShift 105 = .ok (.iload_n 2, 1) := by decide +kernel
theorem dX8_considerShift_106 : decode cX8_considerShift 106 = .ok (.putfield 95, 3) := by decide +kernel
theorem dX8_considerShift_109 : decode cX8_considerShift 109 = .ok (.return_, 1) := by decide +kernel
theorem dX8_findShift_0 : decode cX8_findShift 0 = .ok (.aload_n 0, 1) := by decide +kernel
theorem dX8_findShift_1 : decode cX8_findShift 1 = .ok (.iconst (-1), 1) := by decide +kernel
theorem dX8_findShift_2 : decode cX8_findShift 2 = .ok (.putfield 71, 3) := by decide +kernel
theorem dX8_findShift_5 : decode cX8_findShift 5 = .ok (.iconst 0, 1) := by decide +kernel
theorem dX8_findShift_6 : decode cX8_findShift 6 = .ok (.istore_n 2, 1) := by decide +kernel
theorem dX8_findShift_7 : decode cX8_findShift 7 = .ok (.iload_n 2, 1) := by decide +kernel
theorem dX8_findShift_8 : decode cX8_findShift 8 = .ok (.aload_n 0, 1) := by decide +kernel
theorem dX8_findShift_9 : decode cX8_findShift 9 = .ok (.getfield 31, 3) := by decide +kernel
theorem dX8_findShift_12 : decode cX8_findShift 12 = .ok (.getfield 32, 3) := by decide +kernel
theorem dX8_findShift_15 : decode cX8_findShift 15 = .ok (.if_icmp .ge 49, 3) := by decide +kernel
theorem dX8_findShift_18 : decode cX8_findShift 18 = .ok (.iconst 0, 1) := by decide +kernel
theorem dX8_findShift_19 : decode cX8_findShift 19 = .ok (.istore_n 3, 1) := by decide +kernel
theorem dX8_findShift_20 : decode cX8_findShift 20 = .ok (.iload_n 3, 1) := by decide +kernel
theorem dX8_findShift_21 : decode cX8_findShift 21 = .ok (.aload_n 0, 1) := by decide +kernel
theorem dX8_findShift_22 : decode cX8_findShift 22 = .ok (.getfield 31, 3) := by decide +kernel
theorem dX8_findShift_25 : decode cX8_findShift 25 = .ok (.getfield 32, 3) := by decide +kernel
theorem dX8_findShift_28 : decode cX8_findShift 28 = .ok (.if_icmp .ge 30, 3) := by decide +kernel
theorem dX8_findShift_31 : decode cX8_findShift 31 = .ok (.iload_n 2, 1) := by decide +kernel
theorem dX8_findShift_32 : decode cX8_findShift 32 = .ok (.iload_n 3, 1) := by decide +kernel
theorem dX8_findShift_33 : decode cX8_findShift 33 = .ok (.if_icmp .eq 19, 3) := by decide +kernel
theorem dX8_findShift_36 : decode cX8_findShift 36 = .ok (.aload_n 0, 1) := by decide +kernel
theorem dX8_findShift_37 : decode cX8_findShift 37 = .ok (.iload_n 2, 1) := by decide +kernel
theorem dX8_findShift_38 : decode cX8_findShift 38 = .ok (.iload_n 3, 1) := by decide +kernel
theorem dX8_findShift_39 : decode cX8_findShift 39 = .ok (.invokevirtual 74, 3) := by decide +kernel
theorem dX8_findShift_42 : decode cX8_findShift 42 = .ok (.ifCond .eq 10, 3) := by decide +kernel
theorem dX8_findShift_45 : decode cX8_findShift 45 = .ok (.aload_n 0, 1) := by decide +kernel
theorem dX8_findShift_46 : decode cX8_findShift 46 = .ok (.iload_n 2, 1) := by decide +kernel
theorem dX8_findShift_47 : decode cX8_findShift 47 = .ok (.iload_n 3, 1) := by decide +kernel
theorem dX8_findShift_48 : decode cX8_findShift 48 = .ok (.iload_n 1, 1) := by decide +kernel
theorem dX8_findShift_49 : decode cX8_findShift 49 = .ok (.invokevirtual 78, 3) := by decide +kernel
theorem dX8_findShift_52 : decode cX8_findShift 52 = .ok (.iinc 3 1, 3) := by decide +kernel
theorem dX8_findShift_55 : decode cX8_findShift 55 = .ok (.goto (-35), 3) := by decide +kernel
theorem dX8_findShift_58 : decode cX8_findShift 58 = .ok (.iinc 2 1, 3) := by decide +kernel
theorem dX8_findShift_61 : decode cX8_findShift 61 = .ok (.goto (-54), 3) := by decide +kernel
theorem dX8_findShift_64 : decode cX8_findShift 64 = .ok (.aload_n 0, 1) := by decide +kernel
theorem dX8_findShift_65 : decode cX8_findShift 65 = .ok (.getfield 71, 3) := by decide +kernel
theorem dX8_findShift_68 : decode cX8_findShift 68 = .ok (.iconst (-1), 1) := by decide +kernel
theorem dX8_findShift_69 : decode cX8_findShift 69 = .ok (.if_icmp .eq 7, 3) := by decide +kernel
theorem dX8_findShift_72 : decode cX8_findShift 72 = .ok (.iconst 1, 1) := by decide +kernel
theorem dX8_findShift_73 : decode cX8_findShift 73 = .ok (.goto 4, 3) := by decide +kernel
theorem dX8_findShift_76 : decode cX8_findShift 76 = .ok (.iconst 0, 1) := by decide +kernel
theorem dX8_findShift_77 : decode cX8_findShift 77 = .ok (.ireturn, 1) := by decide +kernel
noncomputable def fX8_goDay_50 (k4 : Int32 → Int32 → HS → Option (Int32 × HS)) (v1 : Int32) (v2 : Int32) (s0 : Int32) (h : HS) : Option (Int32 × HS) := if s0 ≤ 0 then (nm (v2 + (1 : Int32)) (fun v2_8 => k4 v1 v2_8 h)) else (ck (inb v2 15) (ck (inb v2 15) (nm (pI h 30 v2.toNatClampNeg ((gI h 30 v2.toNatClampNeg) - s0)) (fun h10 => ck (inb v2 15) (ck (inb v2 15) (bv (fX4_give ((gI h10 65 v2.toNatClampNeg)) (((s0 * (gI h10 64 v2.toNatClampNeg)) / (100 : Int32))) h10) (fun h14 => nm (v2 + (1 : Int32)) (fun v2_15 => k4 (1 : Int32) v2_15 h14))))))))
set_option maxRecDepth 100000 in
theorem jX8_goDay_50 {r : Int32} {h0 : HS} (k4 : Int32 → Int32 → HS → Option (Int32 × HS)) (hk4 : ∀ (v1 : Int32) (v2 : Int32) (h : HS), k4 v1 v2 h = some (r, h0) → Jx skC RX8 cX8_goDay 4 (some .boolean) 2 (some (.int r)) h0 4 [some (.ref 9), some (.int v1), some (.int v2), none] [] h) (v1 : Int32) (v2 : Int32) (s0 : Int32) (h : HS) (H : fX8_goDay_50 k4 v1 v2 s0 h = some (r, h0)) : Jx skC RX8 cX8_goDay 4 (some .boolean) 2 (some (.int r)) h0 50 [some (.ref 9), some (.int v1), some (.int v2), none] [.int s0] h := by
  unfold fX8_goDay_50 at H
  refine j_istore_n (pc := 50) (L' := [some (.ref 9), some (.int v1), some (.int v2), some (.int s0)]) dX8_goDay_50 (by decide) rfl ?_
  refine j_iload_n (pc := 51) dX8_goDay_51 rfl ?_
  refine j_if_le (pc := 52) (tgt := 94) dX8_goDay_52 (by decide) (fun c7 => ?_) (fun c7 => ?_)
  · rw [if_pos c7] at H
    obtain ⟨v2_8, ev2_8, H⟩ := nm_x H
    refine j_iinc (pc := 94) (L' := [some (.ref 9), some (.int v1), some (.int v2_8), some (.int s0)]) (w := 1) dX8_goDay_94 rfl (by decide) (by decide) v2_8 ev2_8 rfl ?_
    refine j_goto (pc := 97) (tgt := 4) dX8_goDay_97 (by decide) ?_
    refine Jx.sub (L' := [some (.ref 9), some (.int v1), some (.int v2_8), none]) (⟨rfl, ⟨rfl, ⟨rfl, trivial⟩⟩⟩) ?_
    exact hk4 v1 v2_8 h H
  · rw [if_neg c7] at H
    refine j_iconst (pc := 55) (v := 1) dX8_goDay_55 (by decide) ?_
    refine j_istore_n (pc := 56) (L' := [some (.ref 9), some (.int (1 : Int32)), some (.int v2), some (.int s0)]) dX8_goDay_56 (by decide) rfl ?_
    refine j_aload_n (pc := 57) dX8_goDay_57 rfl ?_
    refine j_getR (pc := 58) (b := 2) dX8_goDay_58 flX8_31 rfl ?_
    refine j_getR (pc := 61) (b := 30) dX8_goDay_61 flX8_41 rfl ?_
    refine j_iload_n (pc := 64) dX8_goDay_64 rfl ?_
    refine j_dup2 (pc := 65) dX8_goDay_65 rfl rfl ?_
    obtain ⟨b9, H⟩ := ck_x H
    refine j_iaload (pc := 66) dX8_goDay_66 rfl b9 rfl ?_
    refine j_iload_n (pc := 67) dX8_goDay_67 rfl ?_
    refine j_isub (pc := 68) dX8_goDay_68 ?_
    obtain ⟨b11, H⟩ := ck_x H
    obtain ⟨h10, eh10, H⟩ := nm_x H
    refine j_iastore (pc := 69) dX8_goDay_69 rfl b11 rfl h10 eh10 ?_
    refine j_aload_n (pc := 70) dX8_goDay_70 rfl ?_
    refine j_getR (pc := 71) (b := 2) dX8_goDay_71 flX8_31 rfl ?_
    refine j_aload_n (pc := 74) dX8_goDay_74 rfl ?_
    refine j_getR (pc := 75) (b := 65) dX8_goDay_75 flX8_18 rfl ?_
    refine j_iload_n (pc := 78) dX8_goDay_78 rfl ?_
    obtain ⟨b12, H⟩ := ck_x H
    refine j_iaload (pc := 79) dX8_goDay_79 rfl b12 rfl ?_
    refine j_iload_n (pc := 80) dX8_goDay_80 rfl ?_
    refine j_aload_n (pc := 81) dX8_goDay_81 rfl ?_
    refine j_getR (pc := 82) (b := 64) dX8_goDay_82 flX8_15 rfl ?_
    refine j_iload_n (pc := 85) dX8_goDay_85 rfl ?_
    obtain ⟨b13, H⟩ := ck_x H
    refine j_iaload (pc := 86) dX8_goDay_86 rfl b13 rfl ?_
    refine j_imul (pc := 87) dX8_goDay_87 ?_
    refine j_bipush (pc := 88) (v := 100) dX8_goDay_88 (by decide) ?_
    refine j_idiv (pc := 90) dX8_goDay_90 (by decide) ?_
    obtain ⟨h14, eh14, H⟩ := bv_x H
    refine j_callV (pc := 91) dX8_goDay_91 mlX8_50 wyX4_give (tX4_give eh14) (by decide) rfl rfl rfl rfl (by simp [Value.category]) rfl ?_
    obtain ⟨v2_15, ev2_15, H⟩ := nm_x H
    refine j_iinc (pc := 94) (L' := [some (.ref 9), some (.int (1 : Int32)), some (.int v2_15), some (.int s0)]) (w := 1) dX8_goDay_94 rfl (by decide) (by decide) v2_15 ev2_15 rfl ?_
    refine j_goto (pc := 97) (tgt := 4) dX8_goDay_97 (by decide) ?_
    refine Jx.sub (L' := [some (.ref 9), some (.int (1 : Int32)), some (.int v2_15), none]) (⟨rfl, ⟨rfl, ⟨rfl, trivial⟩⟩⟩) ?_
    exact hk4 (1 : Int32) v2_15 h14 H
noncomputable def fX8_goDay_4 : Nat → Int32 → Int32 → HS → Option (Int32 × HS)
  | 0, _, _, _ => none
  | n + 1, v1, v2, h => if (gI h 2 8) ≤ v2 then (nm (pI h 1 7 ((gI h 1 7) + (1 : Int32))) (fun h2 => some (vp_nar .boolean v1, h2))) else (ck (inb v2 15) (if (gI h 26 v2.toNatClampNeg) = (1 : Int32) then (ck (inb v2 15) (ck (inb v2 15) (fX8_goDay_50 (fX8_goDay_4 n) v1 v2 ((imin (gI h 63 v2.toNatClampNeg) (gI h 30 v2.toNatClampNeg))) h))) else (fX8_goDay_50 (fX8_goDay_4 n) v1 v2 (0 : Int32) h)))
set_option maxRecDepth 100000 in
theorem jX8_goDay_4 {r : Int32} {h0 : HS} : ∀ (n : Nat) (v1 : Int32) (v2 : Int32) (h : HS), fX8_goDay_4 n v1 v2 h = some (r, h0) → Jx skC RX8 cX8_goDay 4 (some .boolean) 2 (some (.int r)) h0 4 [some (.ref 9), some (.int v1), some (.int v2), none] [] h := by
  intro n
  induction n with
  | zero => intro v1 v2  h H; cases H
  | succ n ih =>
    intro v1 v2  h H
    rw [fX8_goDay_4] at H
    refine j_iload_n (pc := 4) dX8_goDay_4 rfl ?_
    refine j_aload_n (pc := 5) dX8_goDay_5 rfl ?_
    refine j_getR (pc := 6) (b := 2) dX8_goDay_6 flX8_31 rfl ?_
    refine j_getI (pc := 9) dX8_goDay_9 flX8_32 rfl ?_
    refine j_icmp_ge (pc := 12) (tgt := 100) dX8_goDay_12 (by decide) (fun c1 => ?_) (fun c1 => ?_)
    · rw [if_pos c1] at H
      refine j_aload_n (pc := 100) dX8_goDay_100 rfl ?_
      refine j_getR (pc := 101) (b := 1) dX8_goDay_101 flX8_21 rfl ?_
      refine j_dup (pc := 104) dX8_goDay_104 rfl ?_
      refine j_getI (pc := 105) dX8_goDay_105 flX8_54 rfl ?_
      refine j_iconst (pc := 108) (v := 1) dX8_goDay_108 (by decide) ?_
      refine j_iadd (pc := 109) dX8_goDay_109 ?_
      obtain ⟨h2, eh2, H⟩ := nm_x H
      refine j_putI (pc := 110) dX8_goDay_110 fpX8_54 rfl h2 eh2 ?_
      refine j_iload_n (pc := 113) dX8_goDay_113 rfl ?_
      exact j_zreturn (pc := 114) dX8_goDay_114 rfl (ri_1 H) (ri_2 H)
    · rw [if_neg c1] at H
      refine j_aload_n (pc := 15) dX8_goDay_15 rfl ?_
      refine j_getR (pc := 16) (b := 2) dX8_goDay_16 flX8_31 rfl ?_
      refine j_getR (pc := 19) (b := 26) dX8_goDay_19 flX8_38 rfl ?_
      refine j_iload_n (pc := 22) dX8_goDay_22 rfl ?_
      obtain ⟨b3, H⟩ := ck_x H
      refine j_iaload (pc := 23) dX8_goDay_23 rfl b3 rfl ?_
      refine j_iconst (pc := 24) (v := 1) dX8_goDay_24 (by decide) ?_
      refine j_icmp_ne (pc := 25) (tgt := 49) dX8_goDay_25 (by decide) (fun c4 => ?_) (fun c4 => ?_)
      · rw [if_neg c4] at H
        refine j_iconst (pc := 49) (v := 0) dX8_goDay_49 (by decide) ?_
        refine Jx.sub (L' := [some (.ref 9), some (.int v1), some (.int v2), none]) (⟨rfl, ⟨rfl, ⟨rfl, trivial⟩⟩⟩) ?_
        exact jX8_goDay_50 _ ih v1 v2 (0 : Int32) h H
      · rw [if_pos c4] at H
        refine j_aload_n (pc := 28) dX8_goDay_28 rfl ?_
        refine j_getR (pc := 29) (b := 63) dX8_goDay_29 flX8_9 rfl ?_
        refine j_iload_n (pc := 32) dX8_goDay_32 rfl ?_
        obtain ⟨b5, H⟩ := ck_x H
        refine j_iaload (pc := 33) dX8_goDay_33 rfl b5 rfl ?_
        refine j_aload_n (pc := 34) dX8_goDay_34 rfl ?_
        refine j_getR (pc := 35) (b := 2) dX8_goDay_35 flX8_31 rfl ?_
        refine j_getR (pc := 38) (b := 30) dX8_goDay_38 flX8_41 rfl ?_
        refine j_iload_n (pc := 41) dX8_goDay_41 rfl ?_
        obtain ⟨b6, H⟩ := ck_x H
        refine j_iaload (pc := 42) dX8_goDay_42 rfl b6 rfl ?_
        refine j_mmin (pc := 43) dX8_goDay_43 wmX8_44 (by simp [Value.category]) ?_
        refine j_goto (pc := 46) (tgt := 50) dX8_goDay_46 (by decide) ?_
        refine Jx.sub (L' := [some (.ref 9), some (.int v1), some (.int v2), none]) (⟨rfl, ⟨rfl, ⟨rfl, trivial⟩⟩⟩) ?_
        exact jX8_goDay_50 _ ih v1 v2 ((imin (gI h 63 v2.toNatClampNeg) (gI h 30 v2.toNatClampNeg))) h H
noncomputable def fX8_goDay (h : HS) : Option (Int32 × HS) := fX8_goDay_4 FU (0 : Int32) (0 : Int32) h
set_option maxRecDepth 100000 in
theorem tX8_goDay {r : Int32} {h h0 : HS} (H : fX8_goDay h = some (r, h0)) : Cn skC yX8_goDay cX8_goDay 4 (some .boolean) 2 [.ref 9] h (some (.int r)) h0 := by
  refine Cn_of (L := [some (.ref 9), none, none, none]) (by decide +kernel) (by simp [lg_sl, Value.category]) (fun ad => by simp [lg_sl, tv, Value.category]) (⟨rfl, trivial⟩) ?_
  unfold fX8_goDay at H
  refine j_iconst (pc := 0) (v := 0) dX8_goDay_0 (by decide) ?_
  refine j_istore_n (pc := 1) (L' := [some (.ref 9), some (.int (0 : Int32)), none, none]) dX8_goDay_1 (by decide) rfl ?_
  refine j_iconst (pc := 2) (v := 0) dX8_goDay_2 (by decide) ?_
  refine j_istore_n (pc := 3) (L' := [some (.ref 9), some (.int (0 : Int32)), some (.int (0 : Int32)), none]) dX8_goDay_3 (by decide) rfl ?_
  refine Jx.sub (L' := [some (.ref 9), some (.int (0 : Int32)), some (.int (0 : Int32)), none]) (⟨rfl, ⟨rfl, ⟨rfl, trivial⟩⟩⟩) ?_
  exact jX8_goDay_4 FU (0 : Int32) (0 : Int32) h H

noncomputable def fX8_emptyOnes_46 (k4 : Int32 → Int32 → HS → Option (Int32 × HS)) (v2 : Int32) (s1 : Int32) (s0 : Int32) (h : HS) : Option (Int32 × HS) := nm ((s0 + s1)) (fun v1_6 => nm (v2 + (1 : Int32)) (fun v2_7 => k4 v1_6 v2_7 h))
set_option maxRecDepth 100000 in
theorem jX8_emptyOnes_46 {r : Int32} {h0 : HS} (k4 : Int32 → Int32 → HS → Option (Int32 × HS)) (hk4 : ∀ (v1 : Int32) (v2 : Int32) (h : HS), k4 v1 v2 h = some (r, h0) → Jx skC RX8 cX8_emptyOnes 3 (some .int) 0 (some (.int r)) h0 4 [some (.ref 9), some (.int v1), some (.int v2)] [] h) (v2 : Int32) (s1 : Int32) (s0 : Int32) (h : HS) (H : fX8_emptyOnes_46 k4 v2 s1 s0 h = some (r, h0)) : Jx skC RX8 cX8_emptyOnes 3 (some .int) 0 (some (.int r)) h0 46 [some (.ref 9), none, some (.int v2)] [.int s1, .int s0] h := by
  unfold fX8_emptyOnes_46 at H
  refine j_iadd (pc := 46) dX8_emptyOnes_46 ?_
  obtain ⟨v1_6, ev1_6, H⟩ := nm_x H
  refine j_topi ev1_6 ?_
  refine j_istore_n (pc := 47) (L' := [some (.ref 9), some (.int v1_6), some (.int v2)]) dX8_emptyOnes_47 (by decide) rfl ?_
  obtain ⟨v2_7, ev2_7, H⟩ := nm_x H
  refine j_iinc (pc := 48) (L' := [some (.ref 9), some (.int v1_6), some (.int v2_7)]) (w := 1) dX8_emptyOnes_48 rfl (by decide) (by decide) v2_7 ev2_7 rfl ?_
  refine j_goto (pc := 51) (tgt := 4) dX8_emptyOnes_51 (by decide) ?_
  refine Jx.sub (L' := [some (.ref 9), some (.int v1_6), some (.int v2_7)]) (⟨rfl, ⟨rfl, ⟨rfl, trivial⟩⟩⟩) ?_
  exact hk4 v1_6 v2_7 h H
noncomputable def fX8_emptyOnes_45 (k4 : Int32 → Int32 → HS → Option (Int32 × HS)) (v2 : Int32) (s0 : Int32) (h : HS) : Option (Int32 × HS) := fX8_emptyOnes_46 k4 v2 (0 : Int32) s0 h
set_option maxRecDepth 100000 in
theorem jX8_emptyOnes_45 {r : Int32} {h0 : HS} (k4 : Int32 → Int32 → HS → Option (Int32 × HS)) (hk4 : ∀ (v1 : Int32) (v2 : Int32) (h : HS), k4 v1 v2 h = some (r, h0) → Jx skC RX8 cX8_emptyOnes 3 (some .int) 0 (some (.int r)) h0 4 [some (.ref 9), some (.int v1), some (.int v2)] [] h) (v2 : Int32) (s0 : Int32) (h : HS) (H : fX8_emptyOnes_45 k4 v2 s0 h = some (r, h0)) : Jx skC RX8 cX8_emptyOnes 3 (some .int) 0 (some (.int r)) h0 45 [some (.ref 9), none, some (.int v2)] [.int s0] h := by
  unfold fX8_emptyOnes_45 at H
  refine j_iconst (pc := 45) (v := 0) dX8_emptyOnes_45 (by decide) ?_
  refine Jx.sub (L' := [some (.ref 9), none, some (.int v2)]) (⟨rfl, ⟨rfl, trivial⟩⟩) ?_
  exact jX8_emptyOnes_46 _ hk4 v2 (0 : Int32) s0 h H
noncomputable def fX8_emptyOnes_4 : Nat → Int32 → Int32 → HS → Option (Int32 × HS)
  | 0, _, _, _ => none
  | n + 1, v1, v2, h => if (gI h 2 8) ≤ v2 then (some (v1, h)) else (ck (inb v2 15) (if (gI h 26 v2.toNatClampNeg) = (1 : Int32) then (ck (inb v2 15) (if (gI h 30 v2.toNatClampNeg) = 0 then (fX8_emptyOnes_46 (fX8_emptyOnes_4 n) v2 (1 : Int32) v1 h) else (fX8_emptyOnes_45 (fX8_emptyOnes_4 n) v2 v1 h))) else (fX8_emptyOnes_45 (fX8_emptyOnes_4 n) v2 v1 h)))
set_option maxRecDepth 100000 in
theorem jX8_emptyOnes_4 {r : Int32} {h0 : HS} : ∀ (n : Nat) (v1 : Int32) (v2 : Int32) (h : HS), fX8_emptyOnes_4 n v1 v2 h = some (r, h0) → Jx skC RX8 cX8_emptyOnes 3 (some .int) 0 (some (.int r)) h0 4 [some (.ref 9), some (.int v1), some (.int v2)] [] h := by
  intro n
  induction n with
  | zero => intro v1 v2  h H; cases H
  | succ n ih =>
    intro v1 v2  h H
    rw [fX8_emptyOnes_4] at H
    refine j_iload_n (pc := 4) dX8_emptyOnes_4 rfl ?_
    refine j_aload_n (pc := 5) dX8_emptyOnes_5 rfl ?_
    refine j_getR (pc := 6) (b := 2) dX8_emptyOnes_6 flX8_31 rfl ?_
    refine j_getI (pc := 9) dX8_emptyOnes_9 flX8_32 rfl ?_
    refine j_icmp_ge (pc := 12) (tgt := 54) dX8_emptyOnes_12 (by decide) (fun c1 => ?_) (fun c1 => ?_)
    · rw [if_pos c1] at H
      refine j_iload_n (pc := 54) dX8_emptyOnes_54 rfl ?_
      exact j_ireturn (pc := 55) dX8_emptyOnes_55 rfl (ri_1 H) (ri_2 H)
    · rw [if_neg c1] at H
      refine j_iload_n (pc := 15) dX8_emptyOnes_15 rfl ?_
      refine j_aload_n (pc := 16) dX8_emptyOnes_16 rfl ?_
      refine j_getR (pc := 17) (b := 2) dX8_emptyOnes_17 flX8_31 rfl ?_
      refine j_getR (pc := 20) (b := 26) dX8_emptyOnes_20 flX8_38 rfl ?_
      refine j_iload_n (pc := 23) dX8_emptyOnes_23 rfl ?_
      obtain ⟨b2, H⟩ := ck_x H
      refine j_iaload (pc := 24) dX8_emptyOnes_24 rfl b2 rfl ?_
      refine j_iconst (pc := 25) (v := 1) dX8_emptyOnes_25 (by decide) ?_
      refine j_icmp_ne (pc := 26) (tgt := 45) dX8_emptyOnes_26 (by decide) (fun c3 => ?_) (fun c3 => ?_)
      · rw [if_neg c3] at H
        refine Jx.sub (L' := [some (.ref 9), none, some (.int v2)]) (⟨rfl, ⟨rfl, trivial⟩⟩) ?_
        exact jX8_emptyOnes_45 _ ih v2 v1 h H
      · rw [if_pos c3] at H
        refine j_aload_n (pc := 29) dX8_emptyOnes_29 rfl ?_
        refine j_getR (pc := 30) (b := 2) dX8_emptyOnes_30 flX8_31 rfl ?_
        refine j_getR (pc := 33) (b := 30) dX8_emptyOnes_33 flX8_41 rfl ?_
        refine j_iload_n (pc := 36) dX8_emptyOnes_36 rfl ?_
        obtain ⟨b4, H⟩ := ck_x H
        refine j_iaload (pc := 37) dX8_emptyOnes_37 rfl b4 rfl ?_
        refine j_if_ne (pc := 38) (tgt := 45) dX8_emptyOnes_38 (by decide) (fun c5 => ?_) (fun c5 => ?_)
        · rw [if_neg c5] at H
          refine Jx.sub (L' := [some (.ref 9), none, some (.int v2)]) (⟨rfl, ⟨rfl, trivial⟩⟩) ?_
          exact jX8_emptyOnes_45 _ ih v2 v1 h H
        · rw [if_pos c5] at H
          refine j_iconst (pc := 41) (v := 1) dX8_emptyOnes_41 (by decide) ?_
          refine j_goto (pc := 42) (tgt := 46) dX8_emptyOnes_42 (by decide) ?_
          refine Jx.sub (L' := [some (.ref 9), none, some (.int v2)]) (⟨rfl, ⟨rfl, trivial⟩⟩) ?_
          exact jX8_emptyOnes_46 _ ih v2 (1 : Int32) v1 h H
noncomputable def fX8_emptyOnes (h : HS) : Option (Int32 × HS) := fX8_emptyOnes_4 FU (0 : Int32) (0 : Int32) h
set_option maxRecDepth 100000 in
theorem tX8_emptyOnes {r : Int32} {h h0 : HS} (H : fX8_emptyOnes h = some (r, h0)) : Cn skC yX8_emptyOnes cX8_emptyOnes 3 (some .int) 0 [.ref 9] h (some (.int r)) h0 := by
  refine Cn_of (L := [some (.ref 9), none, none]) (by decide +kernel) (by simp [lg_sl, Value.category]) (fun ad => by simp [lg_sl, tv, Value.category]) (⟨rfl, trivial⟩) ?_
  unfold fX8_emptyOnes at H
  refine j_iconst (pc := 0) (v := 0) dX8_emptyOnes_0 (by decide) ?_
  refine j_istore_n (pc := 1) (L' := [some (.ref 9), some (.int (0 : Int32)), none]) dX8_emptyOnes_1 (by decide) rfl ?_
  refine j_iconst (pc := 2) (v := 0) dX8_emptyOnes_2 (by decide) ?_
  refine j_istore_n (pc := 3) (L' := [some (.ref 9), some (.int (0 : Int32)), some (.int (0 : Int32))]) dX8_emptyOnes_3 (by decide) rfl ?_
  refine Jx.sub (L' := [some (.ref 9), some (.int (0 : Int32)), some (.int (0 : Int32))]) (⟨rfl, ⟨rfl, ⟨rfl, trivial⟩⟩⟩) ?_
  exact jX8_emptyOnes_4 FU (0 : Int32) (0 : Int32) h H

noncomputable def fX8_daysInReach_69 (v2 : Int32) (v3 : Int32) (h : HS) : Option (Int32 × HS) := bv (fX4_restore h) (fun h12 => nm (pI h12 1 7 v2) (fun h13 => some (v3, h13)))
set_option maxRecDepth 100000 in
theorem jX8_daysInReach_69 {r : Int32} {h0 : HS} (v2 : Int32) (v3 : Int32) (h : HS) (H : fX8_daysInReach_69 v2 v3 h = some (r, h0)) : Jx skC RX8 cX8_daysInReach 6 (some .int) 4 (some (.int r)) h0 69 [some (.ref 9), none, some (.int v2), some (.int v3), none, none] [] h := by
  unfold fX8_daysInReach_69 at H
  refine j_aload_n (pc := 69) dX8_daysInReach_69 rfl ?_
  refine j_getR (pc := 70) (b := 2) dX8_daysInReach_70 flX8_31 rfl ?_
  obtain ⟨h12, eh12, H⟩ := bv_x H
  refine j_callV (pc := 73) dX8_daysInReach_73 mlX8_68 wyX4_restore (tX4_restore eh12) (by decide) rfl rfl rfl rfl (by simp [Value.category]) rfl ?_
  refine j_aload_n (pc := 76) dX8_daysInReach_76 rfl ?_
  refine j_getR (pc := 77) (b := 1) dX8_daysInReach_77 flX8_21 rfl ?_
  refine j_iload_n (pc := 80) dX8_daysInReach_80 rfl ?_
  obtain ⟨h13, eh13, H⟩ := nm_x H
  refine j_putI (pc := 81) dX8_daysInReach_81 fpX8_54 rfl h13 eh13 ?_
  refine j_iload_n (pc := 84) dX8_daysInReach_84 rfl ?_
  exact j_ireturn (pc := 85) dX8_daysInReach_85 rfl (ri_1 H) (ri_2 H)
noncomputable def fX8_daysInReach_24 : Nat → Int32 → Int32 → Int32 → Int32 → Int32 → HS → Option (Int32 × HS)
  | 0, _, _, _, _, _, _ => none
  | n + 1, v1, v2, v3, v4, v5, h => if (400 : Int32) < v5 then (fX8_daysInReach_69 v2 v3 h) else (if v4 = 0 then (fX8_daysInReach_69 v2 v3 h) else (bd (fX0_findSums v1 h) (fun r6 h5 => if r6 = 0 then (nm (v5 + (1 : Int32)) (fun v5_11 => fX8_daysInReach_24 n v1 v2 v5 (0 : Int32) v5_11 h5)) else (bd (fX8_goDay h5) (fun r9 h8 => nm (v5 + (1 : Int32)) (fun v5_10 => fX8_daysInReach_24 n v1 v2 v3 r9 v5_10 h8))))))
set_option maxRecDepth 100000 in
theorem jX8_daysInReach_24 {r : Int32} {h0 : HS} : ∀ (n : Nat) (v1 : Int32) (v2 : Int32) (v3 : Int32) (v4 : Int32) (v5 : Int32) (h : HS), fX8_daysInReach_24 n v1 v2 v3 v4 v5 h = some (r, h0) → Jx skC RX8 cX8_daysInReach 6 (some .int) 4 (some (.int r)) h0 24 [some (.ref 9), some (.int v1), some (.int v2), some (.int v3), some (.int v4), some (.int v5)] [] h := by
  intro n
  induction n with
  | zero => intro v1 v2 v3 v4 v5  h H; cases H
  | succ n ih =>
    intro v1 v2 v3 v4 v5  h H
    rw [fX8_daysInReach_24] at H
    refine j_iload (pc := 24) dX8_daysInReach_24 rfl ?_
    refine j_sipush (pc := 26) (v := 400) dX8_daysInReach_26 (by decide) ?_
    refine j_icmp_gt (pc := 29) (tgt := 69) dX8_daysInReach_29 (by decide) (fun c3 => ?_) (fun c3 => ?_)
    · rw [if_pos c3] at H
      refine Jx.sub (L' := [some (.ref 9), none, some (.int v2), some (.int v3), none, none]) (⟨rfl, ⟨rfl, ⟨rfl, trivial⟩⟩⟩) ?_
      exact jX8_daysInReach_69 v2 v3 h H
    · rw [if_neg c3] at H
      refine j_iload (pc := 32) dX8_daysInReach_32 rfl ?_
      refine j_if_eq (pc := 34) (tgt := 69) dX8_daysInReach_34 (by decide) (fun c4 => ?_) (fun c4 => ?_)
      · rw [if_pos c4] at H
        refine Jx.sub (L' := [some (.ref 9), none, some (.int v2), some (.int v3), none, none]) (⟨rfl, ⟨rfl, ⟨rfl, trivial⟩⟩⟩) ?_
        exact jX8_daysInReach_69 v2 v3 h H
      · rw [if_neg c4] at H
        refine j_aload_n (pc := 37) dX8_daysInReach_37 rfl ?_
        refine j_getR (pc := 38) (b := 1) dX8_daysInReach_38 flX8_21 rfl ?_
        refine j_iload_n (pc := 41) dX8_daysInReach_41 rfl ?_
        obtain ⟨r6, h5, eh5, H⟩ := bd_x H
        refine j_callV (pc := 42) dX8_daysInReach_42 mlX8_60 wyX0_findSums (tX0_findSums eh5) (by decide) rfl rfl rfl rfl (by simp [Value.category]) rfl ?_
        refine j_if_ne (pc := 45) (tgt := 57) dX8_daysInReach_45 (by decide) (fun c7 => ?_) (fun c7 => ?_)
        · rw [if_neg c7] at H
          refine j_aload_n (pc := 57) dX8_daysInReach_57 rfl ?_
          obtain ⟨r9, h8, eh8, H⟩ := bd_x H
          refine j_callV (pc := 58) dX8_daysInReach_58 mlX8_64 wyX8_goDay (tX8_goDay eh8) (by decide) rfl rfl rfl rfl (by simp [Value.category]) rfl ?_
          refine j_istore (pc := 61) (L' := [some (.ref 9), some (.int v1), some (.int v2), some (.int v3), some (.int r9), some (.int v5)]) dX8_daysInReach_61 (by decide) rfl ?_
          obtain ⟨v5_10, ev5_10, H⟩ := nm_x H
          refine j_iinc (pc := 63) (L' := [some (.ref 9), some (.int v1), some (.int v2), some (.int v3), some (.int r9), some (.int v5_10)]) (w := 1) dX8_daysInReach_63 rfl (by decide) (by decide) v5_10 ev5_10 rfl ?_
          refine j_goto (pc := 66) (tgt := 24) dX8_daysInReach_66 (by decide) ?_
          refine Jx.sub (L' := [some (.ref 9), some (.int v1), some (.int v2), some (.int v3), some (.int r9), some (.int v5_10)]) (⟨rfl, ⟨rfl, ⟨rfl, ⟨rfl, ⟨rfl, ⟨rfl, trivial⟩⟩⟩⟩⟩⟩) ?_
          exact ih v1 v2 v3 r9 v5_10 h8 H
        · rw [if_pos c7] at H
          refine j_iload (pc := 48) dX8_daysInReach_48 rfl ?_
          refine j_istore_n (pc := 50) (L' := [some (.ref 9), some (.int v1), some (.int v2), some (.int v5), some (.int v4), some (.int v5)]) dX8_daysInReach_50 (by decide) rfl ?_
          refine j_iconst (pc := 51) (v := 0) dX8_daysInReach_51 (by decide) ?_
          refine j_istore (pc := 52) (L' := [some (.ref 9), some (.int v1), some (.int v2), some (.int v5), some (.int (0 : Int32)), some (.int v5)]) dX8_daysInReach_52 (by decide) rfl ?_
          refine j_goto (pc := 54) (tgt := 63) dX8_daysInReach_54 (by decide) ?_
          obtain ⟨v5_11, ev5_11, H⟩ := nm_x H
          refine j_iinc (pc := 63) (L' := [some (.ref 9), some (.int v1), some (.int v2), some (.int v5), some (.int (0 : Int32)), some (.int v5_11)]) (w := 1) dX8_daysInReach_63 rfl (by decide) (by decide) v5_11 ev5_11 rfl ?_
          refine j_goto (pc := 66) (tgt := 24) dX8_daysInReach_66 (by decide) ?_
          refine Jx.sub (L' := [some (.ref 9), some (.int v1), some (.int v2), some (.int v5), some (.int (0 : Int32)), some (.int v5_11)]) (⟨rfl, ⟨rfl, ⟨rfl, ⟨rfl, ⟨rfl, ⟨rfl, trivial⟩⟩⟩⟩⟩⟩) ?_
          exact ih v1 v2 v5 (0 : Int32) v5_11 h5 H
noncomputable def fX8_daysInReach (p1 : Int32) (h : HS) : Option (Int32 × HS) := nm ((gI h 1 7)) (fun v2_1 => bv (fX4_save h) (fun h2 => fX8_daysInReach_24 FU p1 v2_1 (-2 : Int32) (1 : Int32) (0 : Int32) h2))
set_option maxRecDepth 100000 in
theorem tX8_daysInReach {p1 : Int32} {r : Int32} {h h0 : HS} (H : fX8_daysInReach p1 h = some (r, h0)) : Cn skC yX8_daysInReach cX8_daysInReach 6 (some .int) 4 [.ref 9, .int p1] h (some (.int r)) h0 := by
  refine Cn_of (L := [some (.ref 9), some (.int p1), none, none, none, none]) (by decide +kernel) (by simp [lg_sl, Value.category]) (fun ad => by simp [lg_sl, tv, Value.category]) (⟨rfl, ⟨rfl, trivial⟩⟩) ?_
  unfold fX8_daysInReach at H
  refine j_aload_n (pc := 0) dX8_daysInReach_0 rfl ?_
  refine j_getR (pc := 1) (b := 1) dX8_daysInReach_1 flX8_21 rfl ?_
  refine j_getI (pc := 4) dX8_daysInReach_4 flX8_54 rfl ?_
  obtain ⟨v2_1, ev2_1, H⟩ := nm_x H
  refine j_topi ev2_1 ?_
  refine j_istore_n (pc := 7) (L' := [some (.ref 9), some (.int p1), some (.int v2_1), none, none, none]) dX8_daysInReach_7 (by decide) rfl ?_
  refine j_aload_n (pc := 8) dX8_daysInReach_8 rfl ?_
  refine j_getR (pc := 9) (b := 2) dX8_daysInReach_9 flX8_31 rfl ?_
  obtain ⟨h2, eh2, H⟩ := bv_x H
  refine j_callV (pc := 12) dX8_daysInReach_12 mlX8_57 wyX4_save (tX4_save eh2) (by decide) rfl rfl rfl rfl (by simp [Value.category]) rfl ?_
  refine j_bipush (pc := 15) (v := -2) dX8_daysInReach_15 (by decide) ?_
  refine j_istore_n (pc := 17) (L' := [some (.ref 9), some (.int p1), some (.int v2_1), some (.int (-2 : Int32)), none, none]) dX8_daysInReach_17 (by decide) rfl ?_
  refine j_iconst (pc := 18) (v := 1) dX8_daysInReach_18 (by decide) ?_
  refine j_istore (pc := 19) (L' := [some (.ref 9), some (.int p1), some (.int v2_1), some (.int (-2 : Int32)), some (.int (1 : Int32)), none]) dX8_daysInReach_19 (by decide) rfl ?_
  refine j_iconst (pc := 21) (v := 0) dX8_daysInReach_21 (by decide) ?_
  refine j_istore (pc := 22) (L' := [some (.ref 9), some (.int p1), some (.int v2_1), some (.int (-2 : Int32)), some (.int (1 : Int32)), some (.int (0 : Int32))]) dX8_daysInReach_22 (by decide) rfl ?_
  refine Jx.sub (L' := [some (.ref 9), some (.int p1), some (.int v2_1), some (.int (-2 : Int32)), some (.int (1 : Int32)), some (.int (0 : Int32))]) (⟨rfl, ⟨rfl, ⟨rfl, ⟨rfl, ⟨rfl, ⟨rfl, trivial⟩⟩⟩⟩⟩⟩) ?_
  exact jX8_daysInReach_24 FU p1 v2_1 (-2 : Int32) (1 : Int32) (0 : Int32) h2 H

noncomputable def fX8_canShift (p1 : Int32) (p2 : Int32) (h : HS) : Option (Int32 × HS) := bd (fX4_isA p1 (1 : Int32) h) (fun r2 h1 => if r2 = 0 then (some ((0 : Int32), h1)) else (bd (fX4_isA p2 (1 : Int32) h1) (fun r5 h4 => if r5 = 0 then (some ((0 : Int32), h4)) else (ck (inb p1 15) (if (gI h4 30 p1.toNatClampNeg) ≤ 0 then (some ((0 : Int32), h4)) else (bd (fX4_room p2 h4) (fun r10 h9 => ck (inb p1 15) (if r10 < (gI h9 30 p1.toNatClampNeg) then (some ((0 : Int32), h9)) else (some ((1 : Int32), h9))))))))))
set_option maxRecDepth 100000 in
theorem tX8_canShift {p1 : Int32} {p2 : Int32} {r : Int32} {h h0 : HS} (H : fX8_canShift p1 p2 h = some (r, h0)) : Cn skC yX8_canShift cX8_canShift 3 (some .boolean) 2 [.ref 9, .int p1, .int p2] h (some (.int r)) h0 := by
  refine Cn_of (L := [some (.ref 9), some (.int p1), some (.int p2)]) (by decide +kernel) (by simp [lg_sl, Value.category]) (fun ad => by simp [lg_sl, tv, Value.category]) (⟨rfl, ⟨rfl, ⟨rfl, trivial⟩⟩⟩) ?_
  unfold fX8_canShift at H
  refine j_aload_n (pc := 0) dX8_canShift_0 rfl ?_
  refine j_getR (pc := 1) (b := 2) dX8_canShift_1 flX8_31 rfl ?_
  refine j_iload_n (pc := 4) dX8_canShift_4 rfl ?_
  refine j_iconst (pc := 5) (v := 1) dX8_canShift_5 (by decide) ?_
  obtain ⟨r2, h1, eh1, H⟩ := bd_x H
  refine j_callV (pc := 6) dX8_canShift_6 mlX8_82 wyX4_isA (tX4_isA eh1) (by decide) rfl rfl rfl rfl (by simp [Value.category]) rfl ?_
  refine j_if_eq (pc := 9) (tgt := 60) dX8_canShift_9 (by decide) (fun c3 => ?_) (fun c3 => ?_)
  · rw [if_pos c3] at H
    refine j_iconst (pc := 60) (v := 0) dX8_canShift_60 (by decide) ?_
    exact j_zreturn (pc := 61) dX8_canShift_61 rfl (rz0 H) (ri_2 H)
  · rw [if_neg c3] at H
    refine j_aload_n (pc := 12) dX8_canShift_12 rfl ?_
    refine j_getR (pc := 13) (b := 2) dX8_canShift_13 flX8_31 rfl ?_
    refine j_iload_n (pc := 16) dX8_canShift_16 rfl ?_
    refine j_iconst (pc := 17) (v := 1) dX8_canShift_17 (by decide) ?_
    obtain ⟨r5, h4, eh4, H⟩ := bd_x H
    refine j_callV (pc := 18) dX8_canShift_18 mlX8_82 wyX4_isA (tX4_isA eh4) (by decide) rfl rfl rfl rfl (by simp [Value.category]) rfl ?_
    refine j_if_eq (pc := 21) (tgt := 60) dX8_canShift_21 (by decide) (fun c6 => ?_) (fun c6 => ?_)
    · rw [if_pos c6] at H
      refine j_iconst (pc := 60) (v := 0) dX8_canShift_60 (by decide) ?_
      exact j_zreturn (pc := 61) dX8_canShift_61 rfl (rz0 H) (ri_2 H)
    · rw [if_neg c6] at H
      refine j_aload_n (pc := 24) dX8_canShift_24 rfl ?_
      refine j_getR (pc := 25) (b := 2) dX8_canShift_25 flX8_31 rfl ?_
      refine j_getR (pc := 28) (b := 30) dX8_canShift_28 flX8_41 rfl ?_
      refine j_iload_n (pc := 31) dX8_canShift_31 rfl ?_
      obtain ⟨b7, H⟩ := ck_x H
      refine j_iaload (pc := 32) dX8_canShift_32 rfl b7 rfl ?_
      refine j_if_le (pc := 33) (tgt := 60) dX8_canShift_33 (by decide) (fun c8 => ?_) (fun c8 => ?_)
      · rw [if_pos c8] at H
        refine j_iconst (pc := 60) (v := 0) dX8_canShift_60 (by decide) ?_
        exact j_zreturn (pc := 61) dX8_canShift_61 rfl (rz0 H) (ri_2 H)
      · rw [if_neg c8] at H
        refine j_aload_n (pc := 36) dX8_canShift_36 rfl ?_
        refine j_getR (pc := 37) (b := 2) dX8_canShift_37 flX8_31 rfl ?_
        refine j_iload_n (pc := 40) dX8_canShift_40 rfl ?_
        obtain ⟨r10, h9, eh9, H⟩ := bd_x H
        refine j_callV (pc := 41) dX8_canShift_41 mlX8_85 wyX4_room (tX4_room eh9) (by decide) rfl rfl rfl rfl (by simp [Value.category]) rfl ?_
        refine j_aload_n (pc := 44) dX8_canShift_44 rfl ?_
        refine j_getR (pc := 45) (b := 2) dX8_canShift_45 flX8_31 rfl ?_
        refine j_getR (pc := 48) (b := 30) dX8_canShift_48 flX8_41 rfl ?_
        refine j_iload_n (pc := 51) dX8_canShift_51 rfl ?_
        obtain ⟨b11, H⟩ := ck_x H
        refine j_iaload (pc := 52) dX8_canShift_52 rfl b11 rfl ?_
        refine j_icmp_lt (pc := 53) (tgt := 60) dX8_canShift_53 (by decide) (fun c12 => ?_) (fun c12 => ?_)
        · rw [if_pos c12] at H
          refine j_iconst (pc := 60) (v := 0) dX8_canShift_60 (by decide) ?_
          exact j_zreturn (pc := 61) dX8_canShift_61 rfl (rz0 H) (ri_2 H)
        · rw [if_neg c12] at H
          refine j_iconst (pc := 56) (v := 1) dX8_canShift_56 (by decide) ?_
          refine j_goto (pc := 57) (tgt := 61) dX8_canShift_57 (by decide) ?_
          exact j_zreturn (pc := 61) dX8_canShift_61 rfl (rz1 H) (ri_2 H)

noncomputable def fX8_considerShift_82 (v1 : Int32) (v2 : Int32) (s0 : Int32) (h : HS) : Option HS := if s0 ≤ (gI h 9 7) then (some h) else (nm (pI h 9 7 s0) (fun h17 => nm (pI h17 9 5 v1) (fun h18 => nm (pI h18 9 6 v2) (fun h19 => some h19))))
set_option maxRecDepth 100000 in
theorem jX8_considerShift_82 {h0 : HS} (v1 : Int32) (v2 : Int32) (s0 : Int32) (h : HS) (H : fX8_considerShift_82 v1 v2 s0 h = some h0) : Jx skC RX8 cX8_considerShift 7 none 5 none h0 82 [some (.ref 9), some (.int v1), some (.int v2), none, none, none, none] [.int s0] h := by
  unfold fX8_considerShift_82 at H
  refine j_istore (pc := 82) (L' := [some (.ref 9), some (.int v1), some (.int v2), none, none, none, some (.int s0)]) dX8_considerShift_82 (by decide) rfl ?_
  refine j_iload (pc := 84) dX8_considerShift_84 rfl ?_
  refine j_aload_n (pc := 86) dX8_considerShift_86 rfl ?_
  refine j_getI (pc := 87) dX8_considerShift_87 flX8_71 rfl ?_
  refine j_icmp_le (pc := 90) (tgt := 109) dX8_considerShift_90 (by decide) (fun c16 => ?_) (fun c16 => ?_)
  · rw [if_pos c16] at H
    exact j_return (pc := 109) dX8_considerShift_109 rfl rfl (rv_2 H)
  · rw [if_neg c16] at H
    refine j_aload_n (pc := 93) dX8_considerShift_93 rfl ?_
    refine j_iload (pc := 94) dX8_considerShift_94 rfl ?_
    obtain ⟨h17, eh17, H⟩ := nm_x H
    refine j_putI (pc := 96) dX8_considerShift_96 fpX8_71 rfl h17 eh17 ?_
    refine j_aload_n (pc := 99) dX8_considerShift_99 rfl ?_
    refine j_iload_n (pc := 100) dX8_considerShift_100 rfl ?_
    obtain ⟨h18, eh18, H⟩ := nm_x H
    refine j_putI (pc := 101) dX8_considerShift_101 fpX8_92 rfl h18 eh18 ?_
    refine j_aload_n (pc := 104) dX8_considerShift_104 rfl ?_
    refine j_iload_n (pc := 105) dX8_considerShift_105 rfl ?_
    obtain ⟨h19, eh19, H⟩ := nm_x H
    refine j_putI (pc := 106) dX8_considerShift_106 fpX8_95 rfl h19 eh19 ?_
    exact j_return (pc := 109) dX8_considerShift_109 rfl rfl (rv_2 H)
noncomputable def fX8_considerShift (p1 : Int32) (p2 : Int32) (p3 : Int32) (h : HS) : Option HS := ck (inb p1 15) (nm ((gI h 30 p1.toNatClampNeg)) (fun v4_2 => ck (inb p1 15) (nm (pI h 30 p1.toNatClampNeg (0 : Int32)) (fun h3 => ck (inb p2 15) (ck (inb p2 15) (nm (pI h3 30 p2.toNatClampNeg ((gI h3 30 p2.toNatClampNeg) + v4_2)) (fun h6 => bd (fX8_daysInReach p3 h6) (fun r9 h8 => ck (inb p1 15) (nm (pI h8 30 p1.toNatClampNeg v4_2) (fun h10 => ck (inb p2 15) (ck (inb p2 15) (nm (pI h10 30 p2.toNatClampNeg ((gI h10 30 p2.toNatClampNeg) - v4_2)) (fun h13 => if r9 = (-2 : Int32) then (fX8_considerShift_82 p1 p2 (401 : Int32) h13) else (fX8_considerShift_82 p1 p2 r9 h13))))))))))))))
set_option maxRecDepth 100000 in
theorem tX8_considerShift {p1 : Int32} {p2 : Int32} {p3 : Int32} {h h0 : HS} (H : fX8_considerShift p1 p2 p3 h = some h0) : Cn skC yX8_considerShift cX8_considerShift 7 none 5 [.ref 9, .int p1, .int p2, .int p3] h none h0 := by
  refine Cn_of (L := [some (.ref 9), some (.int p1), some (.int p2), some (.int p3), none, none, none]) (by decide +kernel) (by simp [lg_sl, Value.category]) (fun ad => by simp [lg_sl, tv, Value.category]) (⟨rfl, ⟨rfl, ⟨rfl, ⟨rfl, trivial⟩⟩⟩⟩) ?_
  unfold fX8_considerShift at H
  refine j_aload_n (pc := 0) dX8_considerShift_0 rfl ?_
  refine j_getR (pc := 1) (b := 2) dX8_considerShift_1 flX8_31 rfl ?_
  refine j_getR (pc := 4) (b := 30) dX8_considerShift_4 flX8_41 rfl ?_
  refine j_iload_n (pc := 7) dX8_considerShift_7 rfl ?_
  obtain ⟨b1, H⟩ := ck_x H
  refine j_iaload (pc := 8) dX8_considerShift_8 rfl b1 rfl ?_
  obtain ⟨v4_2, ev4_2, H⟩ := nm_x H
  refine j_topi ev4_2 ?_
  refine j_istore (pc := 9) (L' := [some (.ref 9), some (.int p1), some (.int p2), some (.int p3), some (.int v4_2), none, none]) dX8_considerShift_9 (by decide) rfl ?_
  refine j_aload_n (pc := 11) dX8_considerShift_11 rfl ?_
  refine j_getR (pc := 12) (b := 2) dX8_considerShift_12 flX8_31 rfl ?_
  refine j_getR (pc := 15) (b := 30) dX8_considerShift_15 flX8_41 rfl ?_
  refine j_iload_n (pc := 18) dX8_considerShift_18 rfl ?_
  refine j_iconst (pc := 19) (v := 0) dX8_considerShift_19 (by decide) ?_
  obtain ⟨b4, H⟩ := ck_x H
  obtain ⟨h3, eh3, H⟩ := nm_x H
  refine j_iastore (pc := 20) dX8_considerShift_20 rfl b4 rfl h3 eh3 ?_
  refine j_aload_n (pc := 21) dX8_considerShift_21 rfl ?_
  refine j_getR (pc := 22) (b := 2) dX8_considerShift_22 flX8_31 rfl ?_
  refine j_getR (pc := 25) (b := 30) dX8_considerShift_25 flX8_41 rfl ?_
  refine j_iload_n (pc := 28) dX8_considerShift_28 rfl ?_
  refine j_dup2 (pc := 29) dX8_considerShift_29 rfl rfl ?_
  obtain ⟨b5, H⟩ := ck_x H
  refine j_iaload (pc := 30) dX8_considerShift_30 rfl b5 rfl ?_
  refine j_iload (pc := 31) dX8_considerShift_31 rfl ?_
  refine j_iadd (pc := 33) dX8_considerShift_33 ?_
  obtain ⟨b7, H⟩ := ck_x H
  obtain ⟨h6, eh6, H⟩ := nm_x H
  refine j_iastore (pc := 34) dX8_considerShift_34 rfl b7 rfl h6 eh6 ?_
  refine j_aload_n (pc := 35) dX8_considerShift_35 rfl ?_
  refine j_iload_n (pc := 36) dX8_considerShift_36 rfl ?_
  obtain ⟨r9, h8, eh8, H⟩ := bd_x H
  refine j_callV (pc := 37) dX8_considerShift_37 mlX8_89 wyX8_daysInReach (tX8_daysInReach eh8) (by decide) rfl rfl rfl rfl (by simp [Value.category]) rfl ?_
  refine j_istore (pc := 40) (L' := [some (.ref 9), some (.int p1), some (.int p2), some (.int p3), some (.int v4_2), some (.int r9), none]) dX8_considerShift_40 (by decide) rfl ?_
  refine j_aload_n (pc := 42) dX8_considerShift_42 rfl ?_
  refine j_getR (pc := 43) (b := 2) dX8_considerShift_43 flX8_31 rfl ?_
  refine j_getR (pc := 46) (b := 30) dX8_considerShift_46 flX8_41 rfl ?_
  refine j_iload_n (pc := 49) dX8_considerShift_49 rfl ?_
  refine j_iload (pc := 50) dX8_considerShift_50 rfl ?_
  obtain ⟨b11, H⟩ := ck_x H
  obtain ⟨h10, eh10, H⟩ := nm_x H
  refine j_iastore (pc := 52) dX8_considerShift_52 rfl b11 rfl h10 eh10 ?_
  refine j_aload_n (pc := 53) dX8_considerShift_53 rfl ?_
  refine j_getR (pc := 54) (b := 2) dX8_considerShift_54 flX8_31 rfl ?_
  refine j_getR (pc := 57) (b := 30) dX8_considerShift_57 flX8_41 rfl ?_
  refine j_iload_n (pc := 60) dX8_considerShift_60 rfl ?_
  refine j_dup2 (pc := 61) dX8_considerShift_61 rfl rfl ?_
  obtain ⟨b12, H⟩ := ck_x H
  refine j_iaload (pc := 62) dX8_considerShift_62 rfl b12 rfl ?_
  refine j_iload (pc := 63) dX8_considerShift_63 rfl ?_
  refine j_isub (pc := 65) dX8_considerShift_65 ?_
  obtain ⟨b14, H⟩ := ck_x H
  obtain ⟨h13, eh13, H⟩ := nm_x H
  refine j_iastore (pc := 66) dX8_considerShift_66 rfl b14 rfl h13 eh13 ?_
  refine j_iload (pc := 67) dX8_considerShift_67 rfl ?_
  refine j_bipush (pc := 69) (v := -2) dX8_considerShift_69 (by decide) ?_
  refine j_icmp_ne (pc := 71) (tgt := 80) dX8_considerShift_71 (by decide) (fun c15 => ?_) (fun c15 => ?_)
  · rw [if_neg c15] at H
    refine j_iload (pc := 80) dX8_considerShift_80 rfl ?_
    refine Jx.sub (L' := [some (.ref 9), some (.int p1), some (.int p2), none, none, none, none]) (⟨rfl, ⟨rfl, ⟨rfl, trivial⟩⟩⟩) ?_
    exact jX8_considerShift_82 p1 p2 r9 h13 H
  · rw [if_pos c15] at H
    refine j_sipush (pc := 74) (v := 401) dX8_considerShift_74 (by decide) ?_
    refine j_goto (pc := 77) (tgt := 82) dX8_considerShift_77 (by decide) ?_
    refine Jx.sub (L' := [some (.ref 9), some (.int p1), some (.int p2), none, none, none, none]) (⟨rfl, ⟨rfl, ⟨rfl, trivial⟩⟩⟩) ?_
    exact jX8_considerShift_82 p1 p2 (401 : Int32) h13 H

noncomputable def fX8_findShift_20 (k7 : Int32 → Int32 → HS → Option (Int32 × HS)) : Nat → Int32 → Int32 → Int32 → HS → Option (Int32 × HS)
  | 0, _, _, _, _ => none
  | n + 1, v1, v2, v3, h => if (gI h 2 8) ≤ v3 then (nm (v2 + (1 : Int32)) (fun v2_5 => k7 v1 v2_5 h)) else (if v2 = v3 then (nm (v3 + (1 : Int32)) (fun v3_7 => fX8_findShift_20 k7 n v1 v2 v3_7 h)) else (bd (fX8_canShift v2 v3 h) (fun r9 h8 => if r9 = 0 then (nm (v3 + (1 : Int32)) (fun v3_11 => fX8_findShift_20 k7 n v1 v2 v3_11 h8)) else (bv (fX8_considerShift v2 v3 v1 h8) (fun h12 => nm (v3 + (1 : Int32)) (fun v3_13 => fX8_findShift_20 k7 n v1 v2 v3_13 h12))))))
set_option maxRecDepth 100000 in
theorem jX8_findShift_20 {r : Int32} {h0 : HS} (k7 : Int32 → Int32 → HS → Option (Int32 × HS)) (hk7 : ∀ (v1 : Int32) (v2 : Int32) (h : HS), k7 v1 v2 h = some (r, h0) → Jx skC RX8 cX8_findShift 4 (some .boolean) 6 (some (.int r)) h0 7 [some (.ref 9), some (.int v1), some (.int v2), none] [] h) : ∀ (n : Nat) (v1 : Int32) (v2 : Int32) (v3 : Int32) (h : HS), fX8_findShift_20 k7 n v1 v2 v3 h = some (r, h0) → Jx skC RX8 cX8_findShift 4 (some .boolean) 6 (some (.int r)) h0 20 [some (.ref 9), some (.int v1), some (.int v2), some (.int v3)] [] h := by
  intro n
  induction n with
  | zero => intro v1 v2 v3  h H; cases H
  | succ n ih =>
    intro v1 v2 v3  h H
    rw [fX8_findShift_20] at H
    refine j_iload_n (pc := 20) dX8_findShift_20 rfl ?_
    refine j_aload_n (pc := 21) dX8_findShift_21 rfl ?_
    refine j_getR (pc := 22) (b := 2) dX8_findShift_22 flX8_31 rfl ?_
    refine j_getI (pc := 25) dX8_findShift_25 flX8_32 rfl ?_
    refine j_icmp_ge (pc := 28) (tgt := 58) dX8_findShift_28 (by decide) (fun c4 => ?_) (fun c4 => ?_)
    · rw [if_pos c4] at H
      obtain ⟨v2_5, ev2_5, H⟩ := nm_x H
      refine j_iinc (pc := 58) (L' := [some (.ref 9), some (.int v1), some (.int v2_5), some (.int v3)]) (w := 1) dX8_findShift_58 rfl (by decide) (by decide) v2_5 ev2_5 rfl ?_
      refine j_goto (pc := 61) (tgt := 7) dX8_findShift_61 (by decide) ?_
      refine Jx.sub (L' := [some (.ref 9), some (.int v1), some (.int v2_5), none]) (⟨rfl, ⟨rfl, ⟨rfl, trivial⟩⟩⟩) ?_
      exact hk7 v1 v2_5 h H
    · rw [if_neg c4] at H
      refine j_iload_n (pc := 31) dX8_findShift_31 rfl ?_
      refine j_iload_n (pc := 32) dX8_findShift_32 rfl ?_
      refine j_icmp_eq (pc := 33) (tgt := 52) dX8_findShift_33 (by decide) (fun c6 => ?_) (fun c6 => ?_)
      · rw [if_pos c6] at H
        obtain ⟨v3_7, ev3_7, H⟩ := nm_x H
        refine j_iinc (pc := 52) (L' := [some (.ref 9), some (.int v1), some (.int v2), some (.int v3_7)]) (w := 1) dX8_findShift_52 rfl (by decide) (by decide) v3_7 ev3_7 rfl ?_
        refine j_goto (pc := 55) (tgt := 20) dX8_findShift_55 (by decide) ?_
        refine Jx.sub (L' := [some (.ref 9), some (.int v1), some (.int v2), some (.int v3_7)]) (⟨rfl, ⟨rfl, ⟨rfl, ⟨rfl, trivial⟩⟩⟩⟩) ?_
        exact ih v1 v2 v3_7 h H
      · rw [if_neg c6] at H
        refine j_aload_n (pc := 36) dX8_findShift_36 rfl ?_
        refine j_iload_n (pc := 37) dX8_findShift_37 rfl ?_
        refine j_iload_n (pc := 38) dX8_findShift_38 rfl ?_
        obtain ⟨r9, h8, eh8, H⟩ := bd_x H
        refine j_callV (pc := 39) dX8_findShift_39 mlX8_74 wyX8_canShift (tX8_canShift eh8) (by decide) rfl rfl rfl rfl (by simp [Value.category]) rfl ?_
        refine j_if_eq (pc := 42) (tgt := 52) dX8_findShift_42 (by decide) (fun c10 => ?_) (fun c10 => ?_)
        · rw [if_pos c10] at H
          obtain ⟨v3_11, ev3_11, H⟩ := nm_x H
          refine j_iinc (pc := 52) (L' := [some (.ref 9), some (.int v1), some (.int v2), some (.int v3_11)]) (w := 1) dX8_findShift_52 rfl (by decide) (by decide) v3_11 ev3_11 rfl ?_
          refine j_goto (pc := 55) (tgt := 20) dX8_findShift_55 (by decide) ?_
          refine Jx.sub (L' := [some (.ref 9), some (.int v1), some (.int v2), some (.int v3_11)]) (⟨rfl, ⟨rfl, ⟨rfl, ⟨rfl, trivial⟩⟩⟩⟩) ?_
          exact ih v1 v2 v3_11 h8 H
        · rw [if_neg c10] at H
          refine j_aload_n (pc := 45) dX8_findShift_45 rfl ?_
          refine j_iload_n (pc := 46) dX8_findShift_46 rfl ?_
          refine j_iload_n (pc := 47) dX8_findShift_47 rfl ?_
          refine j_iload_n (pc := 48) dX8_findShift_48 rfl ?_
          obtain ⟨h12, eh12, H⟩ := bv_x H
          refine j_callV (pc := 49) dX8_findShift_49 mlX8_78 wyX8_considerShift (tX8_considerShift eh12) (by decide) rfl rfl rfl rfl (by simp [Value.category]) rfl ?_
          obtain ⟨v3_13, ev3_13, H⟩ := nm_x H
          refine j_iinc (pc := 52) (L' := [some (.ref 9), some (.int v1), some (.int v2), some (.int v3_13)]) (w := 1) dX8_findShift_52 rfl (by decide) (by decide) v3_13 ev3_13 rfl ?_
          refine j_goto (pc := 55) (tgt := 20) dX8_findShift_55 (by decide) ?_
          refine Jx.sub (L' := [some (.ref 9), some (.int v1), some (.int v2), some (.int v3_13)]) (⟨rfl, ⟨rfl, ⟨rfl, ⟨rfl, trivial⟩⟩⟩⟩) ?_
          exact ih v1 v2 v3_13 h12 H
noncomputable def fX8_findShift_7 : Nat → Int32 → Int32 → HS → Option (Int32 × HS)
  | 0, _, _, _ => none
  | n + 1, v1, v2, h => if (gI h 2 8) ≤ v2 then (if (gI h 9 7) = (-1 : Int32) then (some ((0 : Int32), h)) else (some ((1 : Int32), h))) else (fX8_findShift_20 (fX8_findShift_7 n) FU v1 v2 (0 : Int32) h)
set_option maxRecDepth 100000 in
theorem jX8_findShift_7 {r : Int32} {h0 : HS} : ∀ (n : Nat) (v1 : Int32) (v2 : Int32) (h : HS), fX8_findShift_7 n v1 v2 h = some (r, h0) → Jx skC RX8 cX8_findShift 4 (some .boolean) 6 (some (.int r)) h0 7 [some (.ref 9), some (.int v1), some (.int v2), none] [] h := by
  intro n
  induction n with
  | zero => intro v1 v2  h H; cases H
  | succ n ih =>
    intro v1 v2  h H
    rw [fX8_findShift_7] at H
    refine j_iload_n (pc := 7) dX8_findShift_7 rfl ?_
    refine j_aload_n (pc := 8) dX8_findShift_8 rfl ?_
    refine j_getR (pc := 9) (b := 2) dX8_findShift_9 flX8_31 rfl ?_
    refine j_getI (pc := 12) dX8_findShift_12 flX8_32 rfl ?_
    refine j_icmp_ge (pc := 15) (tgt := 64) dX8_findShift_15 (by decide) (fun c2 => ?_) (fun c2 => ?_)
    · rw [if_pos c2] at H
      refine j_aload_n (pc := 64) dX8_findShift_64 rfl ?_
      refine j_getI (pc := 65) dX8_findShift_65 flX8_71 rfl ?_
      refine j_iconst (pc := 68) (v := -1) dX8_findShift_68 (by decide) ?_
      refine j_icmp_eq (pc := 69) (tgt := 76) dX8_findShift_69 (by decide) (fun c3 => ?_) (fun c3 => ?_)
      · rw [if_pos c3] at H
        refine j_iconst (pc := 76) (v := 0) dX8_findShift_76 (by decide) ?_
        exact j_zreturn (pc := 77) dX8_findShift_77 rfl (rz0 H) (ri_2 H)
      · rw [if_neg c3] at H
        refine j_iconst (pc := 72) (v := 1) dX8_findShift_72 (by decide) ?_
        refine j_goto (pc := 73) (tgt := 77) dX8_findShift_73 (by decide) ?_
        exact j_zreturn (pc := 77) dX8_findShift_77 rfl (rz1 H) (ri_2 H)
    · rw [if_neg c2] at H
      refine j_iconst (pc := 18) (v := 0) dX8_findShift_18 (by decide) ?_
      refine j_istore_n (pc := 19) (L' := [some (.ref 9), some (.int v1), some (.int v2), some (.int (0 : Int32))]) dX8_findShift_19 (by decide) rfl ?_
      refine Jx.sub (L' := [some (.ref 9), some (.int v1), some (.int v2), some (.int (0 : Int32))]) (⟨rfl, ⟨rfl, ⟨rfl, ⟨rfl, trivial⟩⟩⟩⟩) ?_
      exact jX8_findShift_20 _ ih FU v1 v2 (0 : Int32) h H
noncomputable def fX8_findShift (p1 : Int32) (h : HS) : Option (Int32 × HS) := nm (pI h 9 7 (-1 : Int32)) (fun h1 => fX8_findShift_7 FU p1 (0 : Int32) h1)
set_option maxRecDepth 100000 in
theorem tX8_findShift {p1 : Int32} {r : Int32} {h h0 : HS} (H : fX8_findShift p1 h = some (r, h0)) : Cn skC yX8_findShift cX8_findShift 4 (some .boolean) 6 [.ref 9, .int p1] h (some (.int r)) h0 := by
  refine Cn_of (L := [some (.ref 9), some (.int p1), none, none]) (by decide +kernel) (by simp [lg_sl, Value.category]) (fun ad => by simp [lg_sl, tv, Value.category]) (⟨rfl, ⟨rfl, trivial⟩⟩) ?_
  unfold fX8_findShift at H
  refine j_aload_n (pc := 0) dX8_findShift_0 rfl ?_
  refine j_iconst (pc := 1) (v := -1) dX8_findShift_1 (by decide) ?_
  obtain ⟨h1, eh1, H⟩ := nm_x H
  refine j_putI (pc := 2) dX8_findShift_2 fpX8_71 rfl h1 eh1 ?_
  refine j_iconst (pc := 5) (v := 0) dX8_findShift_5 (by decide) ?_
  refine j_istore_n (pc := 6) (L' := [some (.ref 9), some (.int p1), some (.int (0 : Int32)), none]) dX8_findShift_6 (by decide) rfl ?_
  refine Jx.sub (L' := [some (.ref 9), some (.int p1), some (.int (0 : Int32)), none]) (⟨rfl, ⟨rfl, ⟨rfl, trivial⟩⟩⟩) ?_
  exact jX8_findShift_7 FU p1 (0 : Int32) h1 H
