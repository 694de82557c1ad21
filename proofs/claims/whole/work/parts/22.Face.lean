theorem dX11_load_0 : decode cX11_load 0 = .ok (.iload_n 1, 1) := by decide +kernel
theorem dX11_load_1 : decode cX11_load 1 = .ok (.iconst 0, 1) := by decide +kernel
theorem dX11_load_2 : decode cX11_load 2 = .ok (.iconst 3, 1) := by decide +kernel
theorem dX11_load_3 : decode cX11_load 3 = .ok (.invokestatic 81, 3) := by decide +kernel
theorem dX11_load_6 : decode cX11_load 6 = .ok (.ifCond .eq 29, 3) := by decide +kernel
theorem dX11_load_9 : decode cX11_load 9 = .ok (.iload_n 2, 1) := by decide +kernel
theorem dX11_load_10 : decode cX11_load 10 = .ok (.bipush (-99), 2) := by decide +kernel
theorem dX11_load_12 : decode cX11_load 12 = .ok (.bipush 99, 2) := by decide +kernel
theorem dX11_load_14 : decode cX11_load 14 = .ok (.invokestatic 81, 3) := by decide +kernel
theorem dX11_load_17 : decode cX11_load 17 = .ok (.ifCond .eq 18, 3) := by decide +kernel
theorem dX11_load_20 : decode cX11_load 20 = .ok (.iload_n 3, 1) := by decide +kernel
theorem dX11_load_21 : decode cX11_load 21 = .ok (.bipush (-9), 2) := by decide +kernel
theorem dX11_load_23 : decode cX11_load 23 = .ok (.bipush 9, 2) := by decide +kernel
theorem dX11_load_25 : decode cX11_load 25 = .ok (.invokestatic 81, 3) := by decide +kernel
theorem dX11_load_28 : decode cX11_load 28 = .ok (.ifCond .eq 7, 3) := by decide +kernel
theorem dX11_load_31 : decode cX11_load 31 = .ok (.iconst 1, 1) := by decide +kernel
theorem dX11_load_32 : decode cX11_load 32 = .ok (.goto 4, 3) := by decide +kernel
theorem dX11_load_35 : decode cX11_load 35 = .ok (.iconst 0, 1) := by decide +kernel
theorem dX11_load_36 : decode cX11_load 36 = .ok (.istore 6, 2) := by decide +kernel
theorem dX11_load_38 : decode cX11_load 38 = .ok (.iload 6, 2) := by decide +kernel
theorem dX11_load_40 : decode cX11_load 40 = .ok (.ifCond .eq 26, 3) := by decide +kernel
theorem dX11_load_43 : decode cX11_load 43 = .ok (.iload 4, 2) := by decide +kernel
theorem dX11_load_45 : decode cX11_load 45 = .ok (.iconst 0, 1) := by decide +kernel
theorem dX11_load_46 : decode cX11_load 46 = .ok (.sipush 999, 3) := by decide +kernel
theorem dX11_load_49 : decode cX11_load 49 = .ok (.invokestatic 81, 3) := by decide +kernel
theorem dX11_load_52 : decode cX11_load 52 = .ok (.ifCond .eq 14, 3) := by decide +kernel
theorem dX11_load_55 : decode cX11_load 55 = .ok (.iload 5, 2) := by decide +kernel
theorem dX11_load_57 : decode cX11_load 57 = .ok (.iconst 0, 1) := by decide +kernel
theorem dX11_load_58 : decode cX11_load 58 = .ok (.iload 4, 2) := by decide +kernel
theorem dX11_load_60 : decode cX11_load 60 = .ok (.invokestatic 81, 3) := by decide +kernel
theorem dX11_load_63 : decode cX11_load 63 = .ok (.ifCond .ne 5, 3) := by decide +kernel
theorem dX11_load_66 : decode cX11_load 66 = .ok (.iconst (-1), 1) := by decide +kernel
theorem dX11_load_67 : decode cX11_load 67 = .ok (.ireturn, 1) := by decide +kernel
theorem dX11_load_68 : decode cX11_load 68 = .ok (.aload_n 0, 1) := by decide +kernel
theorem dX11_load_69 : decode cX11_load 69 = .ok (.getfield 20, 3) := by decide +kernel
theorem dX11_load_72 : decode cX11_load 72 = .ok (.iload_n 1, 1) := by decide +kernel
theorem dX11_load_73 : decode cX11_load 73 = .ok (.iload_n 2, 1) := by decide +kernel
theorem dX11_load_74 : decode cX11_load 74 = .ok (.iload_n 3, 1) := by decide +kernel
theorem dX11_load_75 : decode cX11_load 75 = .ok (.iload 4, 2) := by decide +kernel
theorem dX11_load_77 : decode cX11_load 77 = .ok (.iload 5, 2) := by decide +kernel
theorem dX11_load_79 : decode cX11_load 79 = .ok (.invokevirtual 85, 3) := by decide +kernel
theorem dX11_load_82 : decode cX11_load 82 = .ok (.ireturn, 1) := by decide +kernel
theorem dX11_fill_0 : decode cX11_fill 0 = .ok (.aload_n 0, 1) := by decide +kernel
theorem dX11_fill_1 : decode cX11_fill 1 = .ok (.getfield 20, 3) := by decide +kernel
theorem dX11_fill_4 : decode cX11_fill 4 = .ok (.iload_n 1, 1) := by decide +kernel
theorem dX11_fill_5 : decode cX11_fill 5 = .ok (.invokevirtual 91, 3) := by decide +kernel
theorem dX11_fill_8 : decode cX11_fill 8 = .ok (.ifCond .eq 20, 3) := by decide +kernel
theorem dX11_fill_11 : decode cX11_fill 11 = .ok (.iload_n 2, 1) := by decide +kernel
theorem dX11_fill_12 : decode cX11_fill 12 = .ok (.iconst 0, 1) := by decide +kernel
theorem dX11_fill_13 : decode cX11_fill 13 = .ok (.aload_n 0, 1) := by decide +kernel
theorem dX11_fill_14 : decode cX11_fill 14 = .ok (.getfield 20, 3) := by decide +kernel
theorem dX11_fill_17 : decode cX11_fill 17 = .ok (.getfield 95, 3) := by decide +kernel
theorem dX11_fill_20 : decode cX11_fill 20 = .ok (.iload_n 1, 1) := by decide +kernel
theorem dX11_fill_21 : decode cX11_fill 21 = .ok (.iaload, 1) := by decide +kernel
theorem dX11_fill_22 : decode cX11_fill 22 = .ok (.invokestatic 81, 3) := by decide +kernel
theorem dX11_fill_25 : decode cX11_fill 25 = .ok (.ifCond .ne 5, 3) := by decide +kernel
theorem dX11_fill_28 : decode cX11_fill 28 = .ok (.iconst (-1), 1) := by decide +kernel
theorem dX11_fill_29 : decode cX11_fill 29 = .ok (.ireturn, 1) := by decide +kernel
theorem dX11_fill_30 : decode cX11_fill 30 = .ok (.aload_n 0, 1) := by decide +kernel
theorem dX11_fill_31 : decode cX11_fill 31 = .ok (.getfield 20, 3) := by decide +kernel
theorem dX11_fill_34 : decode cX11_fill 34 = .ok (.getfield 98, 3) := by decide +kernel
theorem dX11_fill_37 : decode cX11_fill 37 = .ok (.iload_n 1, 1) := by decide +kernel
theorem dX11_fill_38 : decode cX11_fill 38 = .ok (.iaload, 1) := by decide +kernel
theorem dX11_fill_39 : decode cX11_fill 39 = .ok (.istore_n 3, 1) := by decide +kernel
theorem dX11_fill_40 : decode cX11_fill 40 = .ok (.aload_n 0, 1) := by decide +kernel
theorem dX11_fill_41 : decode cX11_fill 41 = .ok (.getfield 20, 3) := by decide +kernel
theorem dX11_fill_44 : decode cX11_fill 44 = .ok (.getfield 98, 3) := by decide +kernel
theorem dX11_fill_47 : decode cX11_fill 47 = .ok (.iload_n 1, 1) := by decide +kernel
theorem dX11_fill_48 : decode cX11_fill 48 = .ok (.iload_n 2, 1) := by decide +kernel
theorem dX11_fill_49 : decode cX11_fill 49 = .ok (.iastore, 1) := by decide +kernel
theorem dX11_fill_50 : decode cX11_fill 50 = .ok (.iload_n 3, 1) := by decide +kernel
theorem dX11_fill_51 : decode cX11_fill 51 = .ok (.ireturn, 1) := by decide +kernel
theorem dX11_entry_0 : decode cX11_entry 0 = .ok (.iload_n 0, 1) := by decide +kernel
theorem dX11_entry_1 : decode cX11_entry 1 = .ok (.ifCond .ne 6, 3) := by decide +kernel
theorem dX11_entry_4 : decode cX11_entry 4 = .ok (.iload_n 1, 1) := by decide +kernel
theorem dX11_entry_5 : decode cX11_entry 5 = .ok (.i2b, 1) := by decide +kernel
theorem dX11_entry_6 : decode cX11_entry 6 = .ok (.ireturn, 1) := by decide +kernel
theorem dX11_entry_7 : decode cX11_entry 7 = .ok (.iload_n 0, 1) := by decide +kernel
theorem dX11_entry_8 : decode cX11_entry 8 = .ok (.iconst 1, 1) := by decide +kernel
theorem dX11_entry_9 : decode cX11_entry 9 = .ok (.if_icmp .ne 8, 3) := by decide +kernel
theorem dX11_entry_12 : decode cX11_entry 12 = .ok (.iload_n 1, 1) := by decide +kernel
theorem dX11_entry_13 : decode cX11_entry 13 = .ok (.i2s, 1) := by decide +kernel
theorem dX11_entry_14 : decode cX11_entry 14 = .ok (.goto 4, 3) := by decide +kernel
theorem dX11_entry_17 : decode cX11_entry 17 = .ok (.iload_n 1, 1) := by decide +kernel
theorem dX11_entry_18 : decode cX11_entry 18 = .ok (.ireturn, 1) := by decide +kernel
theorem dX11_sheet_0 : decode cX11_sheet 0 = .ok (.iload_n 1, 1) := by decide +kernel
theorem dX11_sheet_1 : decode cX11_sheet 1 = .ok (.iconst 0, 1) := by decide +kernel
theorem dX11_sheet_2 : decode cX11_sheet 2 = .ok (.iconst 3, 1) := by decide +kernel
theorem dX11_sheet_3 : decode cX11_sheet 3 = .ok (.invokestatic 81, 3) := by decide +kernel
theorem dX11_sheet_6 : decode cX11_sheet 6 = .ok (.ifCond .eq 9, 3) := by decide +kernel
theorem dX11_sheet_9 : decode cX11_sheet 9 = .ok (.iload_n 2, 1) := by decide +kernel
theorem dX11_sheet_10 : decode cX11_sheet 10 = .ok (.bipush 15, 2) := by decide +kernel
theorem dX11_sheet_12 : decode cX11_sheet 12 = .ok (.if_icmp .le 5, 3) := by decide +kernel
theorem dX11_sheet_15 : decode cX11_sheet 15 = .ok (.iconst (-1), 1) := by decide +kernel
theorem dX11_sheet_16 : decode cX11_sheet 16 = .ok (.ireturn, 1) := by decide +kernel
theorem dX11_sheet_17 : decode cX11_sheet 17 = .ok (.iload_n 1, 1) := by decide +kernel
theorem dX11_sheet_18 : decode cX11_sheet 18 = .ok (.iconst 3, 1) := by decide +kernel
theorem dX11_sheet_19 : decode cX11_sheet 19 = .ok (.if_icmp .ne 13, 3) := by decide +kernel
theorem dX11_sheet_22 : decode cX11_sheet 22 = .ok (.aload_n 0, 1) := by decide +kernel
theorem dX11_sheet_23 : decode cX11_sheet 23 = .ok (.getfield 20, 3) := by decide +kernel
theorem dX11_sheet_26 : decode cX11_sheet 26 = .ok (.invokevirtual 101, 3) := by decide +kernel
theorem dX11_sheet_29 : decode cX11_sheet 29 = .ok (.bipush (-3), 2) := by decide +kernel
theorem dX11_sheet_31 : decode cX11_sheet 31 = .ok (.ireturn, 1) := by decide +kernel
theorem dX11_sheet_32 : decode cX11_sheet 32 = .ok (.iload_n 2, 1) := by decide +kernel
theorem dX11_sheet_33 : decode cX11_sheet 33 = .ok (.ifCond .ge 6, 3) := by decide +kernel
theorem dX11_sheet_36 : decode cX11_sheet 36 = .ok (.bipush (-2), 2) := by decide +kernel
theorem dX11_sheet_38 : decode cX11_sheet 38 = .ok (.ireturn, 1) := by decide +kernel
theorem dX11_sheet_39 : decode cX11_sheet 39 = .ok (.iload_n 2, 1) := by decide +kernel
theorem dX11_sheet_40 : decode cX11_sheet 40 = .ok (.aload_n 0, 1) := by decide +kernel
theorem dX11_sheet_41 : decode cX11_sheet 41 = .ok (.getfield 20, 3) := by decide +kernel
theorem dX11_sheet_44 : decode cX11_sheet 44 = .ok (.getfield 104, 3) := by decide +kernel
theorem dX11_sheet_47 : decode cX11_sheet 47 = .ok (.invokestatic 108, 3) := by decide +kernel
theorem dX11_sheet_50 : decode cX11_sheet 50 = .ok (.istore 5, 2) := by decide +kernel
theorem dX11_sheet_52 : decode cX11_sheet 52 = .ok (.iconst 0, 1) := by decide +kernel
theorem dX11_sheet_53 : decode cX11_sheet 53 = .ok (.istore 6, 2) := by decide +kernel
theorem dX11_sheet_55 : decode cX11_sheet 55 = .ok (.iload 6, 2) := by decide +kernel
theorem dX11_sheet_57 : decode cX11_sheet 57 = .ok (.iload 5, 2) := by decide +kernel
theorem dX11_sheet_59 : decode cX11_sheet 59 = .ok (.if_icmp .ge 29, 3) := by decide +kernel
theorem dX11_sheet_62 : decode cX11_sheet 62 = .ok (.aload_n 0, 1) := by decide +kernel
theorem dX11_sheet_63 : decode cX11_sheet 63 = .ok (.getfield 20, 3) := by decide +kernel
theorem dX11_sheet_66 : decode cX11_sheet 66 = .ok (.iload 6, 2) := by decide +kernel
theorem dX11_sheet_68 : decode cX11_sheet 68 = .ok (.iload_n 1, 1) := by decide +kernel
theorem dX11_sheet_69 : decode cX11_sheet 69 = .ok (.iload_n 3, 1) := by decide +kernel
theorem dX11_sheet_70 : decode cX11_sheet 70 = .ok (.iload 6, 2) := by decide +kernel
theorem dX11_sheet_72 : decode cX11_sheet 72 = .ok (.iload 4, 2) := by decide +kernel
theorem dX11_sheet_74 : decode cX11_sheet 74 = .ok (.imul, 1) := by decide +kernel
theorem dX11_sheet_75 : decode cX11_sheet 75 = .ok (.iadd, 1) := by decide +kernel
theorem dX11_sheet_76 : decode cX11_sheet 76 = .ok (.invokestatic 114, 3) := by decide +kernel
theorem dX11_sheet_79 : decode cX11_sheet 79 = .ok (.invokevirtual 117, 3) := by decide +kernel
theorem dX11_sheet_82 : decode cX11_sheet 82 = .ok (.iinc 6 1, 3) := by decide +kernel
theorem dX11_sheet_85 : decode cX11_sheet 85 = .ok (.goto (-30), 3) := by decide +kernel
theorem dX11_sheet_88 : decode cX11_sheet 88 = .ok (.iload 5, 2) := by decide +kernel
theorem dX11_sheet_90 : decode cX11_sheet 90 = .ok (.ireturn, 1) := by decide +kernel
theorem dX11_base_0 : decode cX11_base 0 = .ok (.iload_n 1, 1) := by decide +kernel
theorem dX11_base_1 : decode cX11_base 1 = .ok (.iconst 0, 1) := by decide +kernel
theorem dX11_base_2 : decode cX11_base 2 = .ok (.ldc 121, 2) := by decide +kernel
theorem dX11_base_4 : decode cX11_base 4 = .ok (.invokestatic 81, 3) := by decide +kernel
theorem dX11_base_7 : decode cX11_base 7 = .ok (.ifCond .eq 29, 3) := by decide +kernel
theorem dX11_base_10 : decode cX11_base 10 = .ok (.iload_n 2, 1) := by decide +kernel
theorem dX11_base_11 : decode cX11_base 11 = .ok (.ldc 122, 2) := by decide +kernel
theorem dX11_base_13 : decode cX11_base 13 = .ok (.ldc 123, 2) := by decide +kernel
theorem dX11_base_15 : decode cX11_base 15 = .ok (.invokestatic 81, 3) := by decide +kernel
theorem dX11_base_18 : decode cX11_base 18 = .ok (.ifCond .eq 18, 3) := by decide +kernel
theorem dX11_base_21 : decode cX11_base 21 = .ok (.iload_n 3, 1) := by decide +kernel
theorem dX11_base_22 : decode cX11_base 22 = .ok (.ldc 124, 2) := by decide +kernel
theorem dX11_base_24 : decode cX11_base 24 = .ok (.ldc 121, 2) := by decide +kernel
theorem dX11_base_26 : decode cX11_base 26 = .ok (.invokestatic 81, 3) := by decide +kernel
theorem dX11_base_29 : decode cX11_base 29 = .ok (.ifCond .eq 7, 3) := by decide +kernel
theorem dX11_base_32 : decode cX11_base 32 = .ok (.iconst 1, 1) := by decide +kernel
theorem dX11_base_33 : decode cX11_base 33 = .ok (.goto 4, 3) := by decide +kernel
theorem dX11_base_36 : decode cX11_base 36 = .ok (.iconst 0, 1) := by decide +kernel
theorem dX11_base_37 : decode cX11_base 37 = .ok (.istore 4, 2) := by decide +kernel
theorem dX11_base_39 : decode cX11_base 39 = .ok (.iload 4, 2) := by decide +kernel
theorem dX11_base_41 : decode cX11_base 41 = .ok (.ifCond .eq 27, 3) := by decide +kernel
theorem dX11_base_44 : decode cX11_base 44 = .ok (.aload_n 0, 1) := by decide +kernel
theorem dX11_base_45 : decode cX11_base 45 = .ok (.getfield 10, 3) := by decide +kernel
theorem dX11_base_48 : decode cX11_base 48 = .ok (.iload_n 1, 1) := by decide +kernel
theorem dX11_base_49 : decode cX11_base 49 = .ok (.putfield 125, 3) := by decide +kernel
theorem dX11_base_52 : decode cX11_base 52 = .ok (.aload_n 0, 1) := by decide +kernel
theorem dX11_base_53 : decode cX11_base 53 = .ok (.getfield 10, 3) := by decide +kernel
theorem dX11_base_56 : decode cX11_base 56 = .ok (.iload_n 2, 1) := by decide +kernel
theorem dX11_base_57 : decode cX11_base 57 = .ok (.putfield 128, 3) := by decide +kernel
theorem dX11_base_60 : decode cX11_base 60 = .ok (.aload_n 0, 1) := by decide +kernel
theorem dX11_base_61 : decode cX11_base 61 = .ok (.getfield 10, 3) := by decide +kernel
theorem dX11_base_64 : decode cX11_base 64 = .ok (.iload_n 3, 1) := by decide +kernel
theorem dX11_base_65 : decode cX11_base 65 = .ok (.putfield 131, 3) := by decide +kernel
theorem dX11_base_68 : decode cX11_base 68 = .ok (.iload 4, 2) := by decide +kernel
theorem dX11_base_70 : decode cX11_base 70 = .ok (.ireturn, 1) := by decide +kernel
theorem dX11_hull_0 : decode cX11_hull 0 = .ok (.iload_n 1, 1) := by decide +kernel
theorem dX11_hull_1 : decode cX11_hull 1 = .ok (.iconst 1, 1) := by decide +kernel
theorem dX11_hull_2 : decode cX11_hull 2 = .ok (.ldc 121, 2) := by decide +kernel
theorem dX11_hull_4 : decode cX11_hull 4 = .ok (.invokestatic 81, 3) := by decide +kernel
theorem dX11_hull_7 : decode cX11_hull 7 = .ok (.ifCond .eq 17, 3) := by decide +kernel
theorem dX11_hull_10 : decode cX11_hull 10 = .ok (.iload_n 2, 1) := by decide +kernel
theorem dX11_hull_11 : decode cX11_hull 11 = .ok (.iconst 0, 1) := by decide +kernel
theorem dX11_hull_12 : decode cX11_hull 12 = .ok (.bipush 99, 2) := by decide +kernel
theorem dX11_hull_14 : decode cX11_hull 14 = .ok (.invokestatic 81, 3) := by decide +kernel
theorem dX11_hull_17 : decode cX11_hull 17 = .ok (.ifCond .eq 7, 3) := by decide +kernel
theorem dX11_hull_20 : decode cX11_hull 20 = .ok (.iconst 1, 1) := by decide +kernel
theorem dX11_hull_21 : decode cX11_hull 21 = .ok (.goto 4, 3) := by decide +kernel
theorem dX11_hull_24 : decode cX11_hull 24 = .ok (.iconst 0, 1) := by decide +kernel
theorem dX11_hull_25 : decode cX11_hull 25 = .ok (.istore_n 3, 1) := by decide +kernel
theorem dX11_hull_26 : decode cX11_hull 26 = .ok (.iload_n 3, 1) := by decide +kernel
theorem dX11_hull_27 : decode cX11_hull 27 = .ok (.ifCond .eq 19, 3) := by decide +kernel
theorem dX11_hull_30 : decode cX11_hull 30 = .ok (.aload_n 0, 1) := by decide +kernel
theorem dX11_hull_31 : decode cX11_hull 31 = .ok (.getfield 25, 3) := by decide +kernel
theorem dX11_hull_34 : decode cX11_hull 34 = .ok (.iload_n 1, 1) := by decide +kernel
theorem dX11_hull_35 : decode cX11_hull 35 = .ok (.putfield 134, 3) := by decide +kernel
theorem dX11_hull_38 : decode cX11_hull 38 = .ok (.aload_n 0, 1) := by decide +kernel
theorem dX11_hull_39 : decode cX11_hull 39 = .ok (.getfield 25, 3) := by decide +kernel
theorem dX11_hull_42 : decode cX11_hull 42 = .ok (.iload_n 2, 1) := by decide +kernel
theorem dX11_hull_43 : decode cX11_hull 43 = .ok (.putfield 139, 3) := by decide +kernel
theorem dX11_hull_46 : decode cX11_hull 46 = .ok (.iload_n 3, 1) := by decide +kernel
theorem dX11_hull_47 : decode cX11_hull 47 = .ok (.ireturn, 1) := by decide +kernel
theorem dX11_layer_0 : decode cX11_layer 0 = .ok (.iload_n 1, 1) := by decide +kernel
theorem dX11_layer_1 : decode cX11_layer 1 = .ok (.invokestatic 142, 3) := by decide +kernel
theorem dX11_layer_4 : decode cX11_layer 4 = .ok (.ifCond .eq 28, 3) := by decide +kernel
theorem dX11_layer_7 : decode cX11_layer 7 = .ok (.iload_n 2, 1) := by decide +kernel
theorem dX11_layer_8 : decode cX11_layer 8 = .ok (.sipush 900, 3) := by decide +kernel
theorem dX11_layer_11 : decode cX11_layer 11 = .ok (.sipush 1100, 3) := by decide +kernel
theorem dX11_layer_14 : decode cX11_layer 14 = .ok (.invokestatic 81, 3) := by decide +kernel
theorem dX11_layer_17 : decode cX11_layer 17 = .ok (.ifCond .eq 15, 3) := by decide +kernel
theorem dX11_layer_20 : decode cX11_layer 20 = .ok (.aload_n 0, 1) := by decide +kernel
theorem dX11_layer_21 : decode cX11_layer 21 = .ok (.getfield 25, 3) := by decide +kernel
theorem dX11_layer_24 : decode cX11_layer 24 = .ok (.iload_n 1, 1) := by decide +kernel
theorem dX11_layer_25 : decode cX11_layer 25 = .ok (.iload_n 2, 1) := by decide +kernel
theorem dX11_layer_26 : decode cX11_layer 26 = .ok (.invokevirtual 145, 3) := by decide +kernel
theorem dX11_layer_29 : decode cX11_layer 29 = .ok (.goto 4, 3) := by decide +kernel
theorem dX11_layer_32 : decode cX11_layer 32 = .ok (.iconst (-1), 1) := by decide +kernel
theorem dX11_layer_33 : decode cX11_layer 33 = .ok (.ireturn, 1) := by decide +kernel
theorem dX11_mix_0 : decode cX11_mix 0 = .ok (.aload_n 0, 1) := by decide +kernel
theorem dX11_mix_1 : decode cX11_mix 1 = .ok (.getfield 25, 3) := by decide +kernel
theorem dX11_mix_4 : decode cX11_mix 4 = .ok (.getfield 148, 3) := by decide +kernel
theorem dX11_mix_7 : decode cX11_mix 7 = .ok (.istore_n 1, 1) := by decide +kernel
theorem dX11_mix_8 : decode cX11_mix 8 = .ok (.aload_n 0, 1) := by decide +kernel
theorem dX11_mix_9 : decode cX11_mix 9 = .ok (.getfield 25, 3) := by decide +kernel
theorem dX11_mix_12 : decode cX11_mix 12 = .ok (.iconst 0, 1) := by decide +kernel
theorem dX11_mix_13 : decode cX11_mix 13 = .ok (.putfield 148, 3) := by decide +kernel
theorem dX11_mix_16 : decode cX11_mix 16 = .ok (.iload_n 1, 1) := by decide +kernel
theorem dX11_mix_17 : decode cX11_mix 17 = .ok (.ireturn, 1) := by decide +kernel
theorem dX11_slack_0 : decode cX11_slack 0 = .ok (.iload_n 1, 1) := by decide +kernel
theorem dX11_slack_1 : decode cX11_slack 1 = .ok (.iconst 0, 1) := by decide +kernel
theorem dX11_slack_2 : decode cX11_slack 2 = .ok (.iconst 2, 1) := by decide +kernel
theorem dX11_slack_3 : decode cX11_slack 3 = .ok (.invokestatic 81, 3) := by decide +kernel
theorem dX11_slack_6 : decode cX11_slack 6 = .ok (.ifCond .eq 23, 3) := by decide +kernel
theorem dX11_slack_9 : decode cX11_slack 9 = .ok (.iload_n 2, 1) := by decide +kernel
theorem dX11_slack_10 : decode cX11_slack 10 = .ok (.iconst 0, 1) := by decide +kernel
theorem dX11_slack_11 : decode cX11_slack 11 = .ok (.iload_n 1, 1) := by decide +kernel
theorem dX11_slack_12 : decode cX11_slack 12 = .ok (.ifCond .ne 8, 3) := by decide +kernel
theorem dX11_slack_15 : decode cX11_slack 15 = .ok (.bipush 50, 2) := by decide +kernel
theorem dX11_slack_17 : decode cX11_slack 17 = .ok (.goto 6, 3) := by decide +kernel
theorem dX11_slack_20 : decode cX11_slack 20 = .ok (.sipush 9999, 3) := by decide +kernel
theorem dX11_slack_23 : decode cX11_slack 23 = .ok (.invokestatic 81, 3) := by decide +kernel
theorem dX11_slack_26 : decode cX11_slack 26 = .ok (.ifCond .ne 5, 3) := by decide +kernel
theorem dX11_slack_29 : decode cX11_slack 29 = .ok (.iconst (-1), 1) := by decide +kernel
theorem dX11_slack_30 : decode cX11_slack 30 = .ok (.ireturn, 1) := by decide +kernel
theorem dX11_slack_31 : decode cX11_slack 31 = .ok (.aload_n 0, 1) := by decide +kernel
theorem dX11_slack_32 : decode cX11_slack 32 = .ok (.getfield 10, 3) := by decide +kernel
theorem dX11_slack_35 : decode cX11_slack 35 = .ok (.getfield 151, 3) := by decide +kernel
theorem dX11_slack_38 : decode cX11_slack 38 = .ok (.iload_n 1, 1) := by decide +kernel
theorem dX11_slack_39 : decode cX11_slack 39 = .ok (.iaload, 1) := by decide +kernel
theorem dX11_slack_40 : decode cX11_slack 40 = .ok (.istore_n 3, 1) := by decide +kernel
theorem dX11_slack_41 : decode cX11_slack 41 = .ok (.aload_n 0, 1) := by decide +kernel
theorem dX11_slack_42 : decode cX11_slack 42 = .ok (.getfield 10, 3) := by decide +kernel
theorem dX11_slack_45 : decode cX11_slack 45 = .ok (.getfield 151, 3) := by decide +kernel
theorem dX11_slack_48 : decode cX11_slack 48 = .ok (.iload_n 1, 1) := by decide +kernel
theorem dX11_slack_49 : decode cX11_slack 49 = .ok (.iload_n 2, 1) := by decide +kernel
theorem dX11_slack_50 : decode cX11_slack 50 = .ok (.iastore, 1) := by decide +kernel
theorem dX11_slack_51 : decode cX11_slack 51 = .ok (.iload_n 3, 1) := by decide +kernel
theorem dX11_slack_52 : decode cX11_slack 52 = .ok (.ireturn, 1) := by decide +kernel
theorem dX11_of_0 : decode cX11_of 0 = .ok (.aload_n 0, 1) := by decide +kernel
theorem dX11_of_1 : decode cX11_of 1 = .ok (.getfield 20, 3) := by decide +kernel
theorem dX11_of_4 : decode cX11_of 4 = .ok (.iload_n 1, 1) := by decide +kernel
theorem dX11_of_5 : decode cX11_of 5 = .ok (.invokevirtual 91, 3) := by decide +kernel
theorem dX11_of_8 : decode cX11_of 8 = .ok (.ifCond .ne 13, 3) := by decide +kernel
theorem dX11_of_11 : decode cX11_of 11 = .ok (.new 154, 3) := by decide +kernel
theorem dX11_of_14 : decode cX11_of 14 = .ok (.dup, 1) := by decide +kernel
theorem dX11_of_15 : decode cX11_of 15 = .ok (.ldc 156, 2) := by decide +kernel
theorem dX11_of_17 : decode cX11_of 17 = .ok (.invokespecial 158, 3) := by decide +kernel
theorem dX11_of_20 : decode cX11_of 20 = .ok (.athrow, 1) := by decide +kernel
theorem dX11_of_21 : decode cX11_of 21 = .ok (.iload_n 2, 1) := by decide +kernel
theorem dX11_of_22 : decode cX11_of 22 = .ok (.tableswitch 84 0 4 #[34, 44, 54, 64, 74], 34) := by decide +kernel
theorem dX11_of_56 : decode cX11_of 56 = .ok (.aload_n 0, 1) := by decide +kernel
theorem dX11_of_57 : decode cX11_of 57 = .ok (.getfield 20, 3) := by decide +kernel
theorem dX11_of_60 : decode cX11_of 60 = .ok (.getfield 161, 3) := by decide +kernel
theorem dX11_of_63 : decode cX11_of 63 = .ok (.iload_n 1, 1) := by decide +kernel
theorem dX11_of_64 : decode cX11_of 64 = .ok (.iaload, 1) := by decide +kernel
theorem dX11_of_65 : decode cX11_of 65 = .ok (.ireturn, 1) := by decide +kernel
theorem dX11_of_66 : decode cX11_of 66 = .ok (.aload_n 0, 1) := by decide +kernel
theorem dX11_of_67 : decode cX11_of 67 = .ok (.getfield 20, 3) := by decide +kernel
theorem dX11_of_70 : decode cX11_of 70 = .ok (.getfield 164, 3) := by decide +kernel
theorem dX11_of_73 : decode cX11_of 73 = .ok (.iload_n 1, 1) := by decide +kernel
theorem dX11_of_74 : decode cX11_of 74 = .ok (.iaload, 1) := by decide +kernel
theorem dX11_of_75 : decode cX11_of 75 = .ok (.ireturn, 1) := by decide +kernel
theorem dX11_of_76 : decode cX11_of 76 = .ok (.aload_n 0, 1) := by decide +kernel
theorem dX11_of_77 : decode cX11_of 77 = .ok (.getfield 20, 3) := by decide +kernel
theorem dX11_of_80 : decode cX11_of 80 = .ok (.getfield 167, 3) := by decide +kernel
theorem dX11_of_83 : decode cX11_of 83 = .ok (.iload_n 1, 1) := by decide +kernel
theorem dX11_of_84 : decode cX11_of 84 = .ok (.iaload, 1) := by decide +kernel
theorem dX11_of_85 : decode cX11_of 85 = .ok (.ireturn, 1) := by decide +kernel
theorem dX11_of_86 : decode cX11_of 86 = .ok (.aload_n 0, 1) := by decide +kernel
theorem dX11_of_87 : decode cX11_of 87 = .ok (.getfield 20, 3) := by decide +kernel
theorem dX11_of_90 : decode cX11_of 90 = .ok (.getfield 95, 3) := by decide +kernel
theorem dX11_of_93 : decode cX11_of 93 = .ok (.iload_n 1, 1) := by decide +kernel
theorem dX11_of_94 : decode cX11_of 94 = .ok (.iaload, 1) := by decide +kernel
theorem dX11_of_95 : decode cX11_of 95 = .ok (.ireturn, 1) := by decide +kernel
theorem dX11_of_96 : decode cX11_of 96 = .ok (.aload_n 0, 1) := by decide +kernel
theorem dX11_of_97 : decode cX11_of 97 = .ok (.getfield 20, 3) := by decide +kernel
theorem dX11_of_100 : decode cX11_of 100 = .ok (.getfield 98, 3) := by decide +kernel
theorem dX11_of_103 : decode cX11_of 103 = .ok (.iload_n 1, 1) := by decide +kernel
theorem dX11_of_104 : decode cX11_of 104 = .ok (.iaload, 1) := by decide +kernel
theorem dX11_of_105 : decode cX11_of 105 = .ok (.ireturn, 1) := by decide +kernel
theorem dX11_of_106 : decode cX11_of 106 = .ok (.new 154, 3) := by decide +kernel
theorem dX11_of_109 : decode cX11_of 109 = .ok (.dup, 1) := by decide +kernel
theorem dX11_of_110 : decode cX11_of 110 = .ok (.ldc 170, 2) := by decide +kernel
theorem dX11_of_112 : decode cX11_of 112 = .ok (.invokespecial 158, 3) := by decide +kernel
theorem dX11_of_115 : decode cX11_of 115 = .ok (.athrow, 1) := by decide +kernel
theorem dX11_heavy_0 : decode cX11_heavy 0 = .ok (.iload_n 1, 1) := by decide +kernel
theorem dX11_heavy_1 : decode cX11_heavy 1 = .ok (.invokestatic 142, 3) := by decide +kernel
theorem dX11_heavy_4 : decode cX11_heavy 4 = .ok (.ifCond .ne 13, 3) := by decide +kernel
theorem dX11_heavy_7 : decode cX11_heavy 7 = .ok (.new 154, 3) := by decide +kernel
theorem dX11_heavy_10 : decode cX11_heavy 10 = .ok (.dup, 1) := by decide +kernel
theorem dX11_heavy_11 : decode cX11_heavy 11 = .ok (.ldc 172, 2) := by decide +kernel
theorem dX11_heavy_13 : decode cX11_heavy 13 = .ok (.invokespecial 158, 3) := by decide +kernel
theorem dX11_heavy_16 : decode cX11_heavy 16 = .ok (.athrow, 1) := by decide +kernel
theorem dX11_heavy_17 : decode cX11_heavy 17 = .ok (.aload_n 0, 1) := by decide +kernel
theorem dX11_heavy_18 : decode cX11_heavy 18 = .ok (.getfield 10, 3) := by decide +kernel
theorem dX11_heavy_21 : decode cX11_heavy 21 = .ok (.iload_n 1, 1) := by decide +kernel
theorem dX11_heavy_22 : decode cX11_heavy 22 = .ok (.invokevirtual 174, 3) := by decide +kernel
theorem dX11_heavy_25 : decode cX11_heavy 25 = .ok (.ireturn, 1) := by decide +kernel
theorem dX11_moment_0 : decode cX11_moment 0 = .ok (.iload_n 1, 1) := by decide +kernel
theorem dX11_moment_1 : decode cX11_moment 1 = .ok (.iconst 0, 1) := by decide +kernel
theorem dX11_moment_2 : decode cX11_moment 2 = .ok (.iconst 1, 1) := by decide +kernel
theorem dX11_moment_3 : decode cX11_moment 3 = .ok (.invokestatic 81, 3) := by decide +kernel
theorem dX11_moment_6 : decode cX11_moment 6 = .ok (.ifCond .ne 13, 3) := by decide +kernel
theorem dX11_moment_9 : decode cX11_moment 9 = .ok (.new 154, 3) := by decide +kernel
theorem dX11_moment_12 : decode cX11_moment 12 = .ok (.dup, 1) := by decide +kernel
theorem dX11_moment_13 : decode cX11_moment 13 = .ok (.ldc 178, 2) := by decide +kernel
theorem dX11_moment_15 : decode cX11_moment 15 = .ok (.invokespecial 158, 3) := by decide +kernel
theorem dX11_moment_18 : decode cX11_moment 18 = .ok (.athrow, 1) := by decide +kernel
theorem dX11_moment_19 : decode cX11_moment 19 = .ok (.iload_n 1, 1) := by decide +kernel
theorem dX11_moment_20 : decode cX11_moment 20 = .ok (.ifCond .ne 13, 3) := by decide +kernel
theorem dX11_moment_23 : decode cX11_moment 23 = .ok (.aload_n 0, 1) := by decide +kernel
theorem dX11_moment_24 : decode cX11_moment 24 = .ok (.getfield 10, 3) := by decide +kernel
theorem dX11_moment_27 : decode cX11_moment 27 = .ok (.invokevirtual 180, 3) := by decide +kernel
theorem dX11_moment_30 : decode cX11_moment 30 = .ok (.goto 10, 3) := by decide +kernel
theorem dX11_moment_33 : decode cX11_moment 33 = .ok (.aload_n 0, 1) := by decide +kernel
theorem dX11_moment_34 : decode cX11_moment 34 = .ok (.getfield 10, 3) := by decide +kernel
theorem dX11_moment_37 : decode cX11_moment 37 = .ok (.invokevirtual 184, 3) := by decide +kernel
theorem dX11_moment_40 : decode cX11_moment 40 = .ok (.ireturn, 1) := by decide +kernel
theorem dX11_balanced_0 : decode cX11_balanced 0 = .ok (.iload_n 1, 1) := by decide +kernel
theorem dX11_balanced_1 : decode cX11_balanced 1 = .ok (.invokestatic 142, 3) := by decide +kernel
theorem dX11_balanced_4 : decode cX11_balanced 4 = .ok (.ifCond .ne 5, 3) := by decide +kernel
theorem dX11_balanced_7 : decode cX11_balanced 7 = .ok (.iconst (-1), 1) := by decide +kernel
theorem dX11_balanced_8 : decode cX11_balanced 8 = .ok (.ireturn, 1) := by decide +kernel
theorem dX11_balanced_9 : decode cX11_balanced 9 = .ok (.aload_n 0, 1) := by decide +kernel
theorem dX11_balanced_10 : decode cX11_balanced 10 = .ok (.getfield 10, 3) := by decide +kernel
theorem dX11_balanced_13 : decode cX11_balanced 13 = .ok (.iload_n 1, 1) := by decide +kernel
theorem dX11_balanced_14 : decode cX11_balanced 14 = .ok (.invokevirtual 187, 3) := by decide +kernel
theorem dX11_balanced_17 : decode cX11_balanced 17 = .ok (.ifCond .eq 7, 3) := by decide +kernel
theorem dX11_balanced_20 : decode cX11_balanced 20 = .ok (.iconst 1, 1) := by decide +kernel
theorem dX11_balanced_21 : decode cX11_balanced 21 = .ok (.goto 4, 3) := by decide +kernel
theorem dX11_balanced_24 : decode cX11_balanced 24 = .ok (.iconst 0, 1) := by decide +kernel
theorem dX11_balanced_25 : decode cX11_balanced 25 = .ok (.ireturn, 1) := by decide +kernel
theorem dX11_lies_0 : decode cX11_lies 0 = .ok (.iload_n 1, 1) := by decide +kernel
theorem dX11_lies_1 : decode cX11_lies 1 = .ok (.iload_n 2, 1) := by decide +kernel
theorem dX11_lies_2 : decode cX11_lies 2 = .ok (.invokestatic 190, 3) := by decide +kernel
theorem dX11_lies_5 : decode cX11_lies 5 = .ok (.ifCond .ne 5, 3) := by decide +kernel
theorem dX11_lies_8 : decode cX11_lies 8 = .ok (.iconst (-1), 1) := by decide +kernel
theorem dX11_lies_9 : decode cX11_lies 9 = .ok (.ireturn, 1) := by decide +kernel
theorem dX11_lies_10 : decode cX11_lies 10 = .ok (.aload_n 0, 1) := by decide +kernel
theorem dX11_lies_11 : decode cX11_lies 11 = .ok (.getfield 10, 3) := by decide +kernel
theorem dX11_lies_14 : decode cX11_lies 14 = .ok (.invokevirtual 194, 3) := by decide +kernel
theorem dX11_lies_17 : decode cX11_lies 17 = .ok (.istore_n 3, 1) := by decide +kernel
theorem dX11_lies_18 : decode cX11_lies 18 = .ok (.iload_n 1, 1) := by decide +kernel
theorem dX11_lies_19 : decode cX11_lies 19 = .ok (.istore 4, 2) := by decide +kernel
theorem dX11_lies_21 : decode cX11_lies 21 = .ok (.iload 4, 2) := by decide +kernel
theorem dX11_lies_23 : decode cX11_lies 23 = .ok (.iload_n 2, 1) := by decide +kernel
theorem dX11_lies_24 : decode cX11_lies 24 = .ok (.if_icmp .gt 25, 3) := by decide +kernel
theorem dX11_lies_27 : decode cX11_lies 27 = .ok (.iload_n 3, 1) := by decide +kernel
theorem dX11_lies_28 : decode cX11_lies 28 = .ok (.aload_n 0, 1) := by decide +kernel
theorem dX11_lies_29 : decode cX11_lies 29 = .ok (.getfield 25, 3) := by decide +kernel
theorem dX11_lies_32 : decode cX11_lies 32 = .ok (.iload 4, 2) := by decide +kernel
theorem dX11_lies_34 : decode cX11_lies 34 = .ok (.invokevirtual 197, 3) := by decide +kernel
theorem dX11_lies_37 : decode cX11_lies 37 = .ok (.if_icmp .gt 6, 3) := by decide +kernel
theorem dX11_lies_40 : decode cX11_lies 40 = .ok (.iload 4, 2) := by decide +kernel
theorem dX11_lies_42 : decode cX11_lies 42 = .ok (.ireturn, 1) := by decide +kernel
theorem dX11_lies_43 : decode cX11_lies 43 = .ok (.iinc 4 1, 3) := by decide +kernel
theorem dX11_lies_46 : decode cX11_lies 46 = .ok (.goto (-25), 3) := by decide +kernel
theorem dX11_lies_49 : decode cX11_lies 49 = .ok (.bipush (-2), 2) := by decide +kernel
theorem dX11_lies_51 : decode cX11_lies 51 = .ok (.ireturn, 1) := by decide +kernel
theorem dX11_hover_0 : decode cX11_hover 0 = .ok (.iload_n 1, 1) := by decide +kernel
theorem dX11_hover_1 : decode cX11_hover 1 = .ok (.iload_n 2, 1) := by decide +kernel
theorem dX11_hover_2 : decode cX11_hover 2 = .ok (.invokestatic 190, 3) := by decide +kernel
theorem dX11_hover_5 : decode cX11_hover 5 = .ok (.ifCond .ne 5, 3) := by decide +kernel
theorem dX11_hover_8 : decode cX11_hover 8 = .ok (.iconst (-1), 1) := by decide +kernel
theorem dX11_hover_9 : decode cX11_hover 9 = .ok (.ireturn, 1) := by decide +kernel
theorem dX11_hover_10 : decode cX11_hover 10 = .ok (.aload_n 0, 1) := by decide +kernel
theorem dX11_hover_11 : decode cX11_hover 11 = .ok (.getfield 10, 3) := by decide +kernel
theorem dX11_hover_14 : decode cX11_hover 14 = .ok (.invokevirtual 200, 3) := by decide +kernel
theorem dX11_hover_17 : decode cX11_hover 17 = .ok (.istore_n 3, 1) := by decide +kernel
theorem dX11_hover_18 : decode cX11_hover 18 = .ok (.aload_n 0, 1) := by decide +kernel
theorem dX11_hover_19 : decode cX11_hover 19 = .ok (.getfield 10, 3) := by decide +kernel
theorem dX11_hover_22 : decode cX11_hover 22 = .ok (.invokevirtual 194, 3) := by decide +kernel
theorem dX11_hover_25 : decode cX11_hover 25 = .ok (.istore 4, 2) := by decide +kernel
theorem dX11_hover_27 : decode cX11_hover 27 = .ok (.iconst 0, 1) := by decide +kernel
theorem dX11_hover_28 : decode cX11_hover 28 = .ok (.istore 5, 2) := by decide +kernel
theorem dX11_hover_30 : decode cX11_hover 30 = .ok (.iconst (-1), 1) := by decide +kernel
theorem dX11_hover_31 : decode cX11_hover 31 = .ok (.istore 6, 2) := by decide +kernel
theorem dX11_hover_33 : decode cX11_hover 33 = .ok (.iconst (-1), 1) := by decide +kernel
theorem dX11_hover_34 : decode cX11_hover 34 = .ok (.istore 7, 2) := by decide +kernel
theorem dX11_hover_36 : decode cX11_hover 36 = .ok (.iload_n 1, 1) := by decide +kernel
theorem dX11_hover_37 : decode cX11_hover 37 = .ok (.istore 8, 2) := by decide +kernel
theorem dX11_hover_39 : decode cX11_hover 39 = .ok (.iload_n 3, 1) := by decide +kernel
theorem dX11_hover_40 : decode cX11_hover 40 = .ok (.ifCond .eq 63, 3) := by decide +kernel
theorem dX11_hover_43 : decode cX11_hover 43 = .ok (.iload 8, 2) := by decide +kernel
theorem dX11_hover_45 : decode cX11_hover 45 = .ok (.iload_n 2, 1) := by decide +kernel
theorem dX11_hover_46 : decode cX11_hover 46 = .ok (.if_icmp .gt 57, 3) := by decide +kernel
theorem dX11_hover_49 : decode cX11_hover 49 = .ok (.iload 4, 2) := by decide +kernel
theorem dX11_hover_51 : decode cX11_hover 51 = .ok (.aload_n 0, 1) := by decide +kernel
theorem dX11_hover_52 : decode cX11_hover 52 = .ok (.getfield 25, 3) := by decide +kernel
theorem dX11_hover_55 : decode cX11_hover 55 = .ok (.iload 8, 2) := by decide +kernel
theorem dX11_hover_57 : decode cX11_hover 57 = .ok (.invokevirtual 197, 3) := by decide +kernel
theorem dX11_hover_60 : decode cX11_hover 60 = .ok (.isub, 1) := by decide +kernel
theorem dX11_hover_61 : decode cX11_hover 61 = .ok (.invokestatic 204, 3) := by decide +kernel
theorem dX11_hover_64 : decode cX11_hover 64 = .ok (.aload_n 0, 1) := by decide +kernel
theorem dX11_hover_65 : decode cX11_hover 65 = .ok (.getfield 10, 3) := by decide +kernel
theorem dX11_hover_68 : decode cX11_hover 68 = .ok (.getfield 151, 3) := by decide +kernel
theorem dX11_hover_71 : decode cX11_hover 71 = .ok (.iconst 0, 1) := by decide +kernel
theorem dX11_hover_72 : decode cX11_hover 72 = .ok (.iaload, 1) := by decide +kernel
theorem dX11_hover_73 : decode cX11_hover 73 = .ok (.if_icmp .gt 24, 3) := by decide +kernel
theorem dX11_hover_76 : decode cX11_hover 76 = .ok (.iload 5, 2) := by decide +kernel
theorem dX11_hover_78 : decode cX11_hover 78 = .ok (.ifCond .ne 8, 3) := by decide +kernel
theorem dX11_hover_81 : decode cX11_hover 81 = .ok (.iload 8, 2) := by decide +kernel
theorem dX11_hover_83 : decode cX11_hover 83 = .ok (.goto 5, 3) := by decide +kernel
theorem dX11_hover_86 : decode cX11_hover 86 = .ok (.iload 6, 2) := by decide +kernel
theorem dX11_hover_88 : decode cX11_hover 88 = .ok (.istore 6, 2) := by decide +kernel
theorem dX11_hover_90 : decode cX11_hover 90 = .ok (.iload 8, 2) := by decide +kernel
theorem dX11_hover_92 : decode cX11_hover 92 = .ok (.istore 7, 2) := by decide +kernel
theorem dX11_hover_94 : decode cX11_hover 94 = .ok (.iinc 5 1, 3) := by decide +kernel
theorem dX11_hover_97 : decode cX11_hover 97 = .ok (.iinc 8 1, 3) := by decide +kernel
theorem dX11_hover_100 : decode cX11_hover 100 = .ok (.goto (-61), 3) := by decide +kernel
theorem dX11_hover_103 : decode cX11_hover 103 = .ok (.aload_n 0, 1) := by decide +kernel
theorem dX11_hover_104 : decode cX11_hover 104 = .ok (.getfield 29, 3) := by decide +kernel
theorem dX11_hover_107 : decode cX11_hover 107 = .ok (.invokevirtual 207, 3) := by decide +kernel
theorem dX11_hover_110 : decode cX11_hover 110 = .ok (.iload 5, 2) := by decide +kernel
theorem dX11_hover_112 : decode cX11_hover 112 = .ok (.ifCond .le 21, 3) := by decide +kernel
theorem dX11_hover_115 : decode cX11_hover 115 = .ok (.aload_n 0, 1) := by decide +kernel
theorem dX11_hover_116 : decode cX11_hover 116 = .ok (.getfield 29, 3) := by decide +kernel
theorem dX11_hover_119 : decode cX11_hover 119 = .ok (.iload 6, 2) := by decide +kernel
theorem dX11_hover_121 : decode cX11_hover 121 = .ok (.invokevirtual 210, 3) := by decide +kernel
theorem dX11_hover_124 : decode cX11_hover 124 = .ok (.aload_n 0, 1) := by decide +kernel
theorem dX11_hover_125 : decode cX11_hover 125 = .ok (.getfield 29, 3) := by decide +kernel
theorem dX11_hover_128 : decode cX11_hover 128 = .ok (.iload 7, 2) := by decide +kernel
theorem dX11_hover_130 : decode cX11_hover 130 = .ok (.invokevirtual 210, 3) := by decide +kernel
theorem dX11_hover_133 : decode cX11_hover 133 = .ok (.iload 5, 2) := by decide +kernel
theorem dX11_hover_135 : decode cX11_hover 135 = .ok (.ireturn, 1) := by decide +kernel
theorem dX11_sign_0 : decode cX11_sign 0 = .ok (.aload_n 0, 1) := by decide +kernel
theorem dX11_sign_1 : decode cX11_sign 1 = .ok (.getfield 213, 3) := by decide +kernel
theorem dX11_sign_4 : decode cX11_sign 4 = .ok (.iconst 4, 1) := by decide +kernel
theorem dX11_sign_5 : decode cX11_sign 5 = .ok (.iadd, 1) := by decide +kernel
theorem dX11_sign_6 : decode cX11_sign 6 = .ok (.bipush 80, 2) := by decide +kernel
theorem dX11_sign_8 : decode cX11_sign 8 = .ok (.if_icmp .le 5, 3) := by decide +kernel
theorem dX11_sign_11 : decode cX11_sign 11 = .ok (.iconst (-1), 1) := by decide +kernel
theorem dX11_sign_12 : decode cX11_sign 12 = .ok (.ireturn, 1) := by decide +kernel
theorem dX11_sign_13 : decode cX11_sign 13 = .ok (.bipush 24, 2) := by decide +kernel
theorem dX11_sign_15 : decode cX11_sign 15 = .ok (.istore_n 2, 1) := by decide +kernel
theorem dX11_sign_16 : decode cX11_sign 16 = .ok (.iload_n 2, 1) := by decide +kernel
theorem dX11_sign_17 : decode cX11_sign 17 = .ok (.ifCond .lt 35, 3) := by decide +kernel
theorem dX11_sign_20 : decode cX11_sign 20 = .ok (.aload_n 0, 1) := by decide +kernel
theorem dX11_sign_21 : decode cX11_sign 21 = .ok (.getfield 33, 3) := by decide +kernel
theorem dX11_sign_24 : decode cX11_sign 24 = .ok (.aload_n 0, 1) := by decide +kernel
theorem dX11_sign_25 : decode cX11_sign 25 = .ok (.getfield 213, 3) := by decide +kernel
theorem dX11_sign_28 : decode cX11_sign 28 = .ok (.iload_n 1, 1) := by decide +kernel
theorem dX11_sign_29 : decode cX11_sign 29 = .ok (.iload_n 2, 1) := by decide +kernel
theorem dX11_sign_30 : decode cX11_sign 30 = .ok (.iushr, 1) := by decide +kernel
theorem dX11_sign_31 : decode cX11_sign 31 = .ok (.sipush 255, 3) := by decide +kernel
theorem dX11_sign_34 : decode cX11_sign 34 = .ok (.iand, 1) := by decide +kernel
theorem dX11_sign_35 : decode cX11_sign 35 = .ok (.iastore, 1) := by decide +kernel
theorem dX11_sign_36 : decode cX11_sign 36 = .ok (.aload_n 0, 1) := by decide +kernel
theorem dX11_sign_37 : decode cX11_sign 37 = .ok (.dup, 1) := by decide +kernel
theorem dX11_sign_38 : decode cX11_sign 38 = .ok (.getfield 213, 3) := by decide +kernel
theorem dX11_sign_41 : decode cX11_sign 41 = .ok (.iconst 1, 1) := by decide +kernel
theorem dX11_sign_42 : decode cX11_sign 42 = .ok (.iadd, 1) := by decide +kernel
theorem dX11_sign_43 : decode cX11_sign 43 = .ok (.putfield 213, 3) := by decide +kernel
theorem dX11_sign_46 : decode cX11_sign 46 = .ok (.iinc 2 (-8), 3) := by decide +kernel
theorem dX11_sign_49 : decode cX11_sign 49 = .ok (.goto (-33), 3) := by decide +kernel
theorem dX11_sign_52 : decode cX11_sign 52 = .ok (.aload_n 0, 1) := by decide +kernel
theorem dX11_sign_53 : decode cX11_sign 53 = .ok (.getfield 213, 3) := by decide +kernel
theorem dX11_sign_56 : decode cX11_sign 56 = .ok (.ireturn, 1) := by decide +kernel
theorem dX11_end_0 : decode cX11_end 0 = .ok (.iload_n 1, 1) := by decide +kernel
theorem dX11_end_1 : decode cX11_end 1 = .ok (.iconst 0, 1) := by decide +kernel
theorem dX11_end_2 : decode cX11_end 2 = .ok (.aload_n 0, 1) := by decide +kernel
theorem dX11_end_3 : decode cX11_end 3 = .ok (.getfield 213, 3) := by decide +kernel
theorem dX11_end_6 : decode cX11_end 6 = .ok (.invokestatic 81, 3) := by decide +kernel
theorem dX11_end_9 : decode cX11_end 9 = .ok (.ifCond .ne 5, 3) := by decide +kernel
theorem dX11_end_12 : decode cX11_end 12 = .ok (.iconst 0, 1) := by decide +kernel
theorem dX11_end_13 : decode cX11_end 13 = .ok (.ireturn, 1) := by decide +kernel
theorem dX11_end_14 : decode cX11_end 14 = .ok (.aload_n 0, 1) := by decide +kernel
theorem dX11_end_15 : decode cX11_end 15 = .ok (.iload_n 1, 1) := by decide +kernel
theorem dX11_end_16 : decode cX11_end 16 = .ok (.putfield 213, 3) := by decide +kernel
theorem dX11_end_19 : decode cX11_end 19 = .ok (.iconst 1, 1) := by decide +kernel
theorem dX11_end_20 : decode cX11_end 20 = .ok (.ireturn, 1) := by decide +kernel
theorem dX11_book_0 : decode cX11_book 0 = .ok (.aload_n 0, 1) := by decide +kernel
theorem dX11_book_1 : decode cX11_book 1 = .ok (.getfield 42, 3) := by decide +kernel
theorem dX11_book_4 : decode cX11_book 4 = .ok (.aload_n 0, 1) := by decide +kernel
theorem dX11_book_5 : decode cX11_book 5 = .ok (.getfield 33, 3) := by decide +kernel
theorem dX11_book_8 : decode cX11_book 8 = .ok (.aload_n 0, 1) := by decide +kernel
theorem dX11_book_9 : decode cX11_book 9 = .ok (.getfield 213, 3) := by decide +kernel
theorem dX11_book_12 : decode cX11_book 12 = .ok (.invokevirtual 216, 3) := by decide +kernel
theorem dX11_book_15 : decode cX11_book 15 = .ok (.istore_n 1, 1) := by decide +kernel
theorem dX11_book_16 : decode cX11_book 16 = .ok (.aload_n 0, 1) := by decide +kernel
theorem dX11_book_17 : decode cX11_book 17 = .ok (.iconst 0, 1) := by decide +kernel
theorem dX11_book_18 : decode cX11_book 18 = .ok (.putfield 213, 3) := by decide +kernel
theorem dX11_book_21 : decode cX11_book 21 = .ok (.iload_n 1, 1) := by decide +kernel
theorem dX11_book_22 : decode cX11_book 22 = .ok (.iconst (-1), 1) := by decide +kernel
theorem dX11_book_23 : decode cX11_book 23 = .ok (.if_icmp .ne 13, 3) := by decide +kernel
theorem dX11_book_26 : decode cX11_book 26 = .ok (.aload_n 0, 1) := by decide +kernel
theorem dX11_book_27 : decode cX11_book 27 = .ok (.getfield 42, 3) := by decide +kernel
theorem dX11_book_30 : decode cX11_book 30 = .ok (.getfield 220, 3) := by decide +kernel
theorem dX11_book_33 : decode cX11_book 33 = .ok (.goto 6, 3) := by decide +kernel
theorem dX11_book_36 : decode cX11_book 36 = .ok (.iconst (-1), 1) := by decide +kernel
theorem dX11_book_37 : decode cX11_book 37 = .ok (.iload_n 1, 1) := by decide +kernel
theorem dX11_book_38 : decode cX11_book 38 = .ok (.isub, 1) := by decide +kernel
theorem dX11_book_39 : decode cX11_book 39 = .ok (.ireturn, 1) := by decide +kernel
theorem dX11_line_0 : decode cX11_line 0 = .ok (.iload_n 1, 1) := by decide +kernel
theorem dX11_line_1 : decode cX11_line 1 = .ok (.iconst 0, 1) := by decide +kernel
theorem dX11_line_2 : decode cX11_line 2 = .ok (.aload_n 0, 1) := by decide +kernel
theorem dX11_line_3 : decode cX11_line 3 = .ok (.getfield 42, 3) := by decide +kernel
theorem dX11_line_6 : decode cX11_line 6 = .ok (.getfield 220, 3) := by decide +kernel
theorem dX11_line_9 : decode cX11_line 9 = .ok (.iconst 1, 1) := by decide +kernel
theorem dX11_line_10 : decode cX11_line 10 = .ok (.isub, 1) := by decide +kernel
theorem dX11_line_11 : decode cX11_line 11 = .ok (.invokestatic 81, 3) := by decide +kernel
theorem dX11_line_14 : decode cX11_line 14 = .ok (.ifCond .ne 13, 3) := by decide +kernel
theorem dX11_line_17 : decode cX11_line 17 = .ok (.new 154, 3) := by decide +kernel
theorem dX11_line_20 : decode cX11_line 20 = .ok (.dup, 1) := by decide +kernel
theorem dX11_line_21 : decode cX11_line 21 = .ok (.ldc 223, 2) := by decide +kernel
theorem dX11_line_23 : decode cX11_line 23 = .ok (.invokespecial 158, 3) := by decide +kernel
theorem dX11_line_26 : decode cX11_line 26 = .ok (.athrow, 1) := by decide +kernel
theorem dX11_line_27 : decode cX11_line 27 = .ok (.aload_n 0, 1) := by decide +kernel
theorem dX11_line_28 : decode cX11_line 28 = .ok (.getfield 42, 3) := by decide +kernel
theorem dX11_line_31 : decode cX11_line 31 = .ok (.iload_n 1, 1) := by decide +kernel
theorem dX11_line_32 : decode cX11_line 32 = .ok (.invokevirtual 225, 3) := by decide +kernel
theorem dX11_line_35 : decode cX11_line 35 = .ok (.ireturn, 1) := by decide +kernel
theorem dX11_morning_0 : decode cX11_morning 0 = .ok (.aload_n 0, 1) := by decide +kernel
theorem dX11_morning_1 : decode cX11_morning 1 = .ok (.getfield 42, 3) := by decide +kernel
theorem dX11_morning_4 : decode cX11_morning 4 = .ok (.invokevirtual 228, 3) := by decide +kernel
theorem dX11_morning_7 : decode cX11_morning 7 = .ok (.istore_n 1, 1) := by decide +kernel
theorem dX11_morning_8 : decode cX11_morning 8 = .ok (.aload_n 0, 1) := by decide +kernel
theorem dX11_morning_9 : decode cX11_morning 9 = .ok (.getfield 29, 3) := by decide +kernel
theorem dX11_morning_12 : decode cX11_morning 12 = .ok (.invokevirtual 207, 3) := by decide +kernel
theorem dX11_morning_15 : decode cX11_morning 15 = .ok (.iconst 0, 1) := by decide +kernel
theorem dX11_morning_16 : decode cX11_morning 16 = .ok (.istore_n 2, 1) := by decide +kernel
theorem dX11_morning_17 : decode cX11_morning 17 = .ok (.iload_n 2, 1) := by decide +kernel
theorem dX11_morning_18 : decode cX11_morning 18 = .ok (.aload_n 0, 1) := by decide +kernel
theorem dX11_morning_19 : decode cX11_morning 19 = .ok (.getfield 42, 3) := by decide +kernel
theorem dX11_morning_22 : decode cX11_morning 22 = .ok (.getfield 220, 3) := by decide +kernel
theorem dX11_morning_25 : decode cX11_morning 25 = .ok (.if_icmp .ge 25, 3) := by decide +kernel
theorem dX11_morning_28 : decode cX11_morning 28 = .ok (.aload_n 0, 1) := by decide +kernel
theorem dX11_morning_29 : decode cX11_morning 29 = .ok (.getfield 29, 3) := by decide +kernel
theorem dX11_morning_32 : decode cX11_morning 32 = .ok (.aload_n 0, 1) := by decide +kernel
theorem dX11_morning_33 : decode cX11_morning 33 = .ok (.getfield 42, 3) := by decide +kernel
theorem dX11_morning_36 : decode cX11_morning 36 = .ok (.getfield 231, 3) := by decide +kernel
theorem dX11_morning_39 : decode cX11_morning 39 = .ok (.iload_n 2, 1) := by decide +kernel
theorem dX11_morning_40 : decode cX11_morning 40 = .ok (.iaload, 1) := by decide +kernel
theorem dX11_morning_41 : decode cX11_morning 41 = .ok (.invokevirtual 210, 3) := by decide +kernel
theorem dX11_morning_44 : decode cX11_morning 44 = .ok (.iinc 2 1, 3) := by decide +kernel
theorem dX11_morning_47 : decode cX11_morning 47 = .ok (.goto (-30), 3) := by decide +kernel
theorem dX11_morning_50 : decode cX11_morning 50 = .ok (.aload_n 0, 1) := by decide +kernel
theorem dX11_morning_51 : decode cX11_morning 51 = .ok (.getfield 29, 3) := by decide +kernel
theorem dX11_morning_54 : decode cX11_morning 54 = .ok (.aload_n 0, 1) := by decide +kernel
theorem dX11_morning_55 : decode cX11_morning 55 = .ok (.getfield 42, 3) := by decide +kernel
theorem dX11_morning_58 : decode cX11_morning 58 = .ok (.getfield 234, 3) := by decide +kernel
theorem dX11_morning_61 : decode cX11_morning 61 = .ok (.invokevirtual 210, 3) := by decide +kernel
theorem dX11_morning_64 : decode cX11_morning 64 = .ok (.aload_n 0, 1) := by decide +kernel
theorem dX11_morning_65 : decode cX11_morning 65 = .ok (.getfield 29, 3) := by decide +kernel
theorem dX11_morning_68 : decode cX11_morning 68 = .ok (.aload_n 0, 1) := by decide +kernel
theorem dX11_morning_69 : decode cX11_morning 69 = .ok (.getfield 42, 3) := by decide +kernel
theorem dX11_morning_72 : decode cX11_morning 72 = .ok (.getfield 237, 3) := by decide +kernel
theorem dX11_morning_75 : decode cX11_morning 75 = .ok (.invokevirtual 210, 3) := by decide +kernel
theorem dX11_morning_78 : decode cX11_morning 78 = .ok (.iload_n 1, 1) := by decide +kernel
theorem dX11_morning_79 : decode cX11_morning 79 = .ok (.ireturn, 1) := by decide +kernel
theorem dX11_holds_0 : decode cX11_holds 0 = .ok (.iload_n 1, 1) := by decide +kernel
theorem dX11_holds_1 : decode cX11_holds 1 = .ok (.invokestatic 142, 3) := by decide +kernel
theorem dX11_holds_4 : decode cX11_holds 4 = .ok (.ifCond .ne 5, 3) := by decide +kernel
theorem dX11_holds_7 : decode cX11_holds 7 = .ok (.iconst (-1), 1) := by decide +kernel
theorem dX11_holds_8 : decode cX11_holds 8 = .ok (.ireturn, 1) := by decide +kernel
theorem dX11_holds_9 : decode cX11_holds 9 = .ok (.aload_n 0, 1) := by decide +kernel
theorem dX11_holds_10 : decode cX11_holds 10 = .ok (.getfield 10, 3) := by decide +kernel
theorem dX11_holds_13 : decode cX11_holds 13 = .ok (.getfield 240, 3) := by decide +kernel
theorem dX11_holds_16 : decode cX11_holds 16 = .ok (.istore_n 2, 1) := by decide +kernel
theorem dX11_holds_17 : decode cX11_holds 17 = .ok (.aload_n 0, 1) := by decide +kernel
theorem dX11_holds_18 : decode cX11_holds 18 = .ok (.getfield 20, 3) := by decide +kernel
theorem dX11_holds_21 : decode cX11_holds 21 = .ok (.invokevirtual 243, 3) := by decide +kernel
theorem dX11_holds_24 : decode cX11_holds 24 = .ok (.bipush (-2), 2) := by decide +kernel
theorem dX11_holds_26 : decode cX11_holds 26 = .ok (.istore_n 3, 1) := by decide +kernel
theorem dX11_holds_27 : decode cX11_holds 27 = .ok (.iconst 0, 1) := by decide +kernel
theorem dX11_holds_28 : decode cX11_holds 28 = .ok (.istore 4, 2) := by decide +kernel
theorem dX11_holds_30 : decode cX11_holds 30 = .ok (.iload 4, 2) := by decide +kernel
theorem dX11_holds_32 : decode cX11_holds 32 = .ok (.sipush 400, 3) := by decide +kernel
theorem dX11_holds_35 : decode cX11_holds 35 = .ok (.if_icmp .gt 98, 3) := by decide +kernel
theorem dX11_holds_38 : decode cX11_holds 38 = .ok (.iload_n 3, 1) := by decide +kernel
theorem dX11_holds_39 : decode cX11_holds 39 = .ok (.bipush (-2), 2) := by decide +kernel
theorem dX11_holds_41 : decode cX11_holds 41 = .ok (.if_icmp .ne 92, 3) := by decide +kernel
theorem dX11_holds_44 : decode cX11_holds 44 = .ok (.aload_n 0, 1) := by decide +kernel
theorem dX11_holds_45 : decode cX11_holds 45 = .ok (.getfield 42, 3) := by decide +kernel
theorem dX11_holds_48 : decode cX11_holds 48 = .ok (.invokevirtual 228, 3) := by decide +kernel
theorem dX11_holds_51 : decode cX11_holds 51 = .ok (.pop, 1) := by decide +kernel
theorem dX11_holds_52 : decode cX11_holds 52 = .ok (.aload_n 0, 1) := by decide +kernel
theorem dX11_holds_53 : decode cX11_holds 53 = .ok (.getfield 10, 3) := by decide +kernel
theorem dX11_holds_56 : decode cX11_holds 56 = .ok (.iload_n 1, 1) := by decide +kernel
theorem dX11_holds_57 : decode cX11_holds 57 = .ok (.invokevirtual 187, 3) := by decide +kernel
theorem dX11_holds_60 : decode cX11_holds 60 = .ok (.ifCond .eq 14, 3) := by decide +kernel
theorem dX11_holds_63 : decode cX11_holds 63 = .ok (.aload_n 0, 1) := by decide +kernel
theorem dX11_holds_64 : decode cX11_holds 64 = .ok (.getfield 70, 3) := by decide +kernel
theorem dX11_holds_67 : decode cX11_holds 67 = .ok (.invokevirtual 246, 3) := by decide +kernel
theorem dX11_holds_70 : decode cX11_holds 70 = .ok (.pop, 1) := by decide +kernel
theorem dX11_holds_71 : decode cX11_holds 71 = .ok (.goto 56, 3) := by decide +kernel
theorem dX11_holds_74 : decode cX11_holds 74 = .ok (.iload 4, 2) := by decide +kernel
theorem dX11_holds_76 : decode cX11_holds 76 = .ok (.istore_n 3, 1) := by decide +kernel
theorem dX11_holds_77 : decode cX11_holds 77 = .ok (.aload_n 0, 1) := by decide +kernel
theorem dX11_holds_78 : decode cX11_holds 78 = .ok (.getfield 29, 3) := by decide +kernel
theorem dX11_holds_81 : decode cX11_holds 81 = .ok (.invokevirtual 207, 3) := by decide +kernel
theorem dX11_holds_84 : decode cX11_holds 84 = .ok (.aload_n 0, 1) := by decide +kernel
theorem dX11_holds_85 : decode cX11_holds 85 = .ok (.getfield 29, 3) := by decide +kernel
theorem dX11_holds_88 : decode cX11_holds 88 = .ok (.aload_n 0, 1) := by decide +kernel
theorem dX11_holds_89 : decode cX11_holds 89 = .ok (.getfield 10, 3) := by decide +kernel
theorem dX11_holds_92 : decode cX11_holds 92 = .ok (.iload_n 1, 1) := by decide +kernel
theorem dX11_holds_93 : decode cX11_holds 93 = .ok (.invokevirtual 174, 3) := by decide +kernel
theorem dX11_holds_96 : decode cX11_holds 96 = .ok (.invokevirtual 210, 3) := by decide +kernel
theorem dX11_holds_99 : decode cX11_holds 99 = .ok (.aload_n 0, 1) := by decide +kernel
theorem dX11_holds_100 : decode cX11_holds 100 = .ok (.getfield 29, 3) := by decide +kernel
theorem dX11_holds_103 : decode cX11_holds 103 = .ok (.aload_n 0, 1) := by decide +kernel
theorem dX11_holds_104 : decode cX11_holds 104 = .ok (.getfield 10, 3) := by decide +kernel
theorem dX11_holds_107 : decode cX11_holds 107 = .ok (.invokevirtual 180, 3) := by decide +kernel
theorem dX11_holds_110 : decode cX11_holds 110 = .ok (.invokevirtual 210, 3) := by decide +kernel
theorem dX11_holds_113 : decode cX11_holds 113 = .ok (.aload_n 0, 1) := by decide +kernel
theorem dX11_holds_114 : decode cX11_holds 114 = .ok (.getfield 29, 3) := by decide +kernel
theorem dX11_holds_117 : decode cX11_holds 117 = .ok (.aload_n 0, 1) := by decide +kernel
theorem dX11_holds_118 : decode cX11_holds 118 = .ok (.getfield 10, 3) := by decide +kernel
theorem dX11_holds_121 : decode cX11_holds 121 = .ok (.invokevirtual 184, 3) := by decide +kernel
theorem dX11_holds_124 : decode cX11_holds 124 = .ok (.invokevirtual 210, 3) := by decide +kernel
theorem dX11_holds_127 : decode cX11_holds 127 = .ok (.iinc 4 1, 3) := by decide +kernel
theorem dX11_holds_130 : decode cX11_holds 130 = .ok (.goto (-100), 3) := by decide +kernel
theorem dX11_holds_133 : decode cX11_holds 133 = .ok (.aload_n 0, 1) := by decide +kernel
theorem dX11_holds_134 : decode cX11_holds 134 = .ok (.getfield 20, 3) := by decide +kernel
theorem dX11_holds_137 : decode cX11_holds 137 = .ok (.invokevirtual 249, 3) := by decide +kernel
theorem dX11_holds_140 : decode cX11_holds 140 = .ok (.aload_n 0, 1) := by decide +kernel
theorem dX11_holds_141 : decode cX11_holds 141 = .ok (.getfield 10, 3) := by decide +kernel
theorem dX11_holds_144 : decode cX11_holds 144 = .ok (.iload_n 2, 1) := by decide +kernel
theorem dX11_holds_145 : decode cX11_holds 145 = .ok (.putfield 240, 3) := by decide +kernel
theorem dX11_holds_148 : decode cX11_holds 148 = .ok (.iload_n 3, 1) := by decide +kernel
theorem dX11_holds_149 : decode cX11_holds 149 = .ok (.ireturn, 1) := by decide +kernel
theorem dX11_liar_0 : decode cX11_liar 0 = .ok (.iload_n 1, 1) := by decide +kernel
theorem dX11_liar_1 : decode cX11_liar 1 = .ok (.invokestatic 142, 3) := by decide +kernel
theorem dX11_liar_4 : decode cX11_liar 4 = .ok (.ifCond .ne 5, 3) := by decide +kernel
theorem dX11_liar_7 : decode cX11_liar 7 = .ok (.iconst (-1), 1) := by decide +kernel
theorem dX11_liar_8 : decode cX11_liar 8 = .ok (.ireturn, 1) := by decide +kernel
theorem dX11_liar_9 : decode cX11_liar 9 = .ok (.iload_n 2, 1) := by decide +kernel
theorem dX11_liar_10 : decode cX11_liar 10 = .ok (.i2l, 1) := by decide +kernel
theorem dX11_liar_11 : decode cX11_liar 11 = .ok (.aload_n 0, 1) := by decide +kernel
theorem dX11_liar_12 : decode cX11_liar 12 = .ok (.getfield 10, 3) := by decide +kernel
theorem dX11_liar_15 : decode cX11_liar 15 = .ok (.iload_n 1, 1) := by decide +kernel
theorem dX11_liar_16 : decode cX11_liar 16 = .ok (.invokevirtual 174, 3) := by decide +kernel
theorem dX11_liar_19 : decode cX11_liar 19 = .ok (.i2l, 1) := by decide +kernel
theorem dX11_liar_20 : decode cX11_liar 20 = .ok (.lsub, 1) := by decide +kernel
theorem dX11_liar_21 : decode cX11_liar 21 = .ok (.lstore 5, 2) := by decide +kernel
theorem dX11_liar_23 : decode cX11_liar 23 = .ok (.iload_n 3, 1) := by decide +kernel
theorem dX11_liar_24 : decode cX11_liar 24 = .ok (.i2l, 1) := by decide +kernel
theorem dX11_liar_25 : decode cX11_liar 25 = .ok (.aload_n 0, 1) := by decide +kernel
theorem dX11_liar_26 : decode cX11_liar 26 = .ok (.getfield 10, 3) := by decide +kernel
theorem dX11_liar_29 : decode cX11_liar 29 = .ok (.invokevirtual 180, 3) := by decide +kernel
theorem dX11_liar_32 : decode cX11_liar 32 = .ok (.i2l, 1) := by decide +kernel
theorem dX11_liar_33 : decode cX11_liar 33 = .ok (.lsub, 1) := by decide +kernel
theorem dX11_liar_34 : decode cX11_liar 34 = .ok (.lstore 7, 2) := by decide +kernel
theorem dX11_liar_36 : decode cX11_liar 36 = .ok (.iload 4, 2) := by decide +kernel
theorem dX11_liar_38 : decode cX11_liar 38 = .ok (.i2l, 1) := by decide +kernel
theorem dX11_liar_39 : decode cX11_liar 39 = .ok (.aload_n 0, 1) := by decide +kernel
theorem dX11_liar_40 : decode cX11_liar 40 = .ok (.getfield 10, 3) := by decide +kernel
theorem dX11_liar_43 : decode cX11_liar 43 = .ok (.invokevirtual 184, 3) := by decide +kernel
theorem dX11_liar_46 : decode cX11_liar 46 = .ok (.i2l, 1) := by decide +kernel
theorem dX11_liar_47 : decode cX11_liar 47 = .ok (.lsub, 1) := by decide +kernel
theorem dX11_liar_48 : decode cX11_liar 48 = .ok (.lstore 9, 2) := by decide +kernel
theorem dX11_liar_50 : decode cX11_liar 50 = .ok (.iconst 0, 1) := by decide +kernel
theorem dX11_liar_51 : decode cX11_liar 51 = .ok (.istore 11, 2) := by decide +kernel
theorem dX11_liar_53 : decode cX11_liar 53 = .ok (.aload_n 0, 1) := by decide +kernel
theorem dX11_liar_54 : decode cX11_liar 54 = .ok (.getfield 29, 3) := by decide +kernel
theorem dX11_liar_57 : decode cX11_liar 57 = .ok (.invokevirtual 207, 3) := by decide +kernel
theorem dX11_liar_60 : decode cX11_liar 60 = .ok (.iconst 0, 1) := by decide +kernel
theorem dX11_liar_61 : decode cX11_liar 61 = .ok (.istore 12, 2) := by decide +kernel
theorem dX11_liar_63 : decode cX11_liar 63 = .ok (.iload 12, 2) := by decide +kernel
theorem dX11_liar_65 : decode cX11_liar 65 = .ok (.aload_n 0, 1) := by decide +kernel
theorem dX11_liar_66 : decode cX11_liar 66 = .ok (.getfield 20, 3) := by decide +kernel
theorem dX11_liar_69 : decode cX11_liar 69 = .ok (.getfield 104, 3) := by decide +kernel
theorem dX11_liar_72 : decode cX11_liar 72 = .ok (.if_icmp .ge 133, 3) := by decide +kernel
theorem dX11_liar_75 : decode cX11_liar 75 = .ok (.aload_n 0, 1) := by decide +kernel
theorem dX11_liar_76 : decode cX11_liar 76 = .ok (.getfield 20, 3) := by decide +kernel
theorem dX11_liar_79 : decode cX11_liar 79 = .ok (.getfield 98, 3) := by decide +kernel
theorem dX11_liar_82 : decode cX11_liar 82 = .ok (.iload 12, 2) := by decide +kernel
theorem dX11_liar_84 : decode cX11_liar 84 = .ok (.iaload, 1) := by decide +kernel
theorem dX11_liar_85 : decode cX11_liar 85 = .ok (.i2l, 1) := by decide +kernel
theorem dX11_liar_86 : decode cX11_liar 86 = .ok (.lload 5, 2) := by decide +kernel
theorem dX11_liar_88 : decode cX11_liar 88 = .ok (.ladd, 1) := by decide +kernel
theorem dX11_liar_89 : decode cX11_liar 89 = .ok (.lstore 13, 2) := by decide +kernel
theorem dX11_liar_91 : decode cX11_liar 91 = .ok (.lload 13, 2) := by decide +kernel
theorem dX11_liar_93 : decode cX11_liar 93 = .ok (.lconst 0, 1) := by decide +kernel
theorem dX11_liar_94 : decode cX11_liar 94 = .ok (.lcmp, 1) := by decide +kernel
theorem dX11_liar_95 : decode cX11_liar 95 = .ok (.ifCond .lt 64, 3) := by decide +kernel
theorem dX11_liar_98 : decode cX11_liar 98 = .ok (.lload 13, 2) := by decide +kernel
theorem dX11_liar_100 : decode cX11_liar 100 = .ok (.aload_n 0, 1) := by decide +kernel
theorem dX11_liar_101 : decode cX11_liar 101 = .ok (.getfield 20, 3) := by decide +kernel
theorem dX11_liar_104 : decode cX11_liar 104 = .ok (.getfield 95, 3) := by decide +kernel
theorem dX11_liar_107 : decode cX11_liar 107 = .ok (.iload 12, 2) := by decide +kernel
theorem dX11_liar_109 : decode cX11_liar 109 = .ok (.iaload, 1) := by decide +kernel
theorem dX11_liar_110 : decode cX11_liar 110 = .ok (.i2l, 1) := by decide +kernel
theorem dX11_liar_111 : decode cX11_liar 111 = .ok (.lcmp, 1) := by decide +kernel
theorem dX11_liar_112 : decode cX11_liar 112 = .ok (.ifCond .gt 47, 3) := by decide +kernel
theorem dX11_liar_115 : decode cX11_liar 115 = .ok (.aload_n 0, 1) := by decide +kernel
theorem dX11_liar_116 : decode cX11_liar 116 = .ok (.getfield 20, 3) := by decide +kernel
theorem dX11_liar_119 : decode cX11_liar 119 = .ok (.getfield 164, 3) := by decide +kernel
theorem dX11_liar_122 : decode cX11_liar 122 = .ok (.iload 12, 2) := by decide +kernel
theorem dX11_liar_124 : decode cX11_liar 124 = .ok (.iaload, 1) := by decide +kernel
theorem dX11_liar_125 : decode cX11_liar 125 = .ok (.i2l, 1) := by decide +kernel
theorem dX11_liar_126 : decode cX11_liar 126 = .ok (.lload 5, 2) := by decide +kernel
theorem dX11_liar_128 : decode cX11_liar 128 = .ok (.lmul, 1) := by decide +kernel
theorem dX11_liar_129 : decode cX11_liar 129 = .ok (.lload 7, 2) := by decide +kernel
theorem dX11_liar_131 : decode cX11_liar 131 = .ok (.lcmp, 1) := by decide +kernel
theorem dX11_liar_132 : decode cX11_liar 132 = .ok (.ifCond .ne 27, 3) := by decide +kernel
theorem dX11_liar_135 : decode cX11_liar 135 = .ok (.aload_n 0, 1) := by decide +kernel
theorem dX11_liar_136 : decode cX11_liar 136 = .ok (.getfield 20, 3) := by decide +kernel
theorem dX11_liar_139 : decode cX11_liar 139 = .ok (.getfield 167, 3) := by decide +kernel
theorem dX11_liar_142 : decode cX11_liar 142 = .ok (.iload 12, 2) := by decide +kernel
theorem dX11_liar_144 : decode cX11_liar 144 = .ok (.iaload, 1) := by decide +kernel
theorem dX11_liar_145 : decode cX11_liar 145 = .ok (.i2l, 1) := by decide +kernel
theorem dX11_liar_146 : decode cX11_liar 146 = .ok (.lload 5, 2) := by decide +kernel
theorem dX11_liar_148 : decode cX11_liar 148 = .ok (.lmul, 1) := by decide +kernel
theorem dX11_liar_149 : decode cX11_liar 149 = .ok (.lload 9, 2) := by decide +kernel
theorem dX11_liar_151 : decode cX11_liar 151 = .ok (.lcmp, 1) := by decide +kernel
theorem dX11_liar_152 : decode cX11_liar 152 = .ok (.ifCond .ne 7, 3) := by decide +kernel
theorem dX11_liar_155 : decode cX11_liar 155 = .ok (.iconst 1, 1) := by decide +kernel
theorem dX11_liar_156 : decode cX11_liar 156 = .ok (.goto 4, 3) := by decide +kernel
theorem dX11_liar_159 : decode cX11_liar 159 = .ok (.iconst 0, 1) := by decide +kernel
theorem dX11_liar_160 : decode cX11_liar 160 = .ok (.istore 15, 2) := by decide +kernel
theorem dX11_liar_162 : decode cX11_liar 162 = .ok (.aload_n 0, 1) := by decide +kernel
theorem dX11_liar_163 : decode cX11_liar 163 = .ok (.getfield 29, 3) := by decide +kernel
theorem dX11_liar_166 : decode cX11_liar 166 = .ok (.iload 15, 2) := by decide +kernel
theorem dX11_liar_168 : decode cX11_liar 168 = .ok (.ifCond .eq 9, 3) := by decide +kernel
theorem dX11_liar_171 : decode cX11_liar 171 = .ok (.lload 13, 2) := by decide +kernel
theorem dX11_liar_173 : decode cX11_liar 173 = .ok (.l2i, 1) := by decide +kernel
theorem dX11_liar_174 : decode cX11_liar 174 = .ok (.goto 4, 3) := by decide +kernel
theorem dX11_liar_177 : decode cX11_liar 177 = .ok (.iconst (-1), 1) := by decide +kernel
theorem dX11_liar_178 : decode cX11_liar 178 = .ok (.invokevirtual 210, 3) := by decide +kernel
theorem dX11_liar_181 : decode cX11_liar 181 = .ok (.iload 11, 2) := by decide +kernel
theorem dX11_liar_183 : decode cX11_liar 183 = .ok (.iload 15, 2) := by decide +kernel
theorem dX11_liar_185 : decode cX11_liar 185 = .ok (.ifCond .eq 10, 3) := by decide +kernel
theorem dX11_liar_188 : decode cX11_liar 188 = .ok (.iconst 1, 1) := by decide +kernel
theorem dX11_liar_189 : decode cX11_liar 189 = .ok (.iload 12, 2) := by decide +kernel
theorem dX11_liar_191 : decode cX11_liar 191 = .ok (.ishl, 1) := by decide +kernel
theorem dX11_liar_192 : decode cX11_liar 192 = .ok (.goto 4, 3) := by decide +kernel
theorem dX11_liar_195 : decode cX11_liar 195 = .ok (.iconst 0, 1) := by decide +kernel
theorem dX11_liar_196 : decode cX11_liar 196 = .ok (.ior, 1) := by decide +kernel
theorem dX11_liar_197 : decode cX11_liar 197 = .ok (.istore 11, 2) := by decide +kernel
theorem dX11_liar_199 : decode cX11_liar 199 = .ok (.iinc 12 1, 3) := by decide +kernel
theorem dX11_liar_202 : decode cX11_liar 202 = .ok (.goto (-139), 3) := by decide +kernel
theorem dX11_liar_205 : decode cX11_liar 205 = .ok (.iload 11, 2) := by decide +kernel
theorem dX11_liar_207 : decode cX11_liar 207 = .ok (.ireturn, 1) := by decide +kernel
theorem dX11_boundFirst_0 : decode cX11_boundFirst 0 = .ok (.aload_n 0, 1) := by decide +kernel
theorem dX11_boundFirst_1 : decode cX11_boundFirst 1 = .ok (.getfield 20, 3) := by decide +kernel
theorem dX11_boundFirst_4 : decode cX11_boundFirst 4 = .ok (.getfield 98, 3) := by decide +kernel
theorem dX11_boundFirst_7 : decode cX11_boundFirst 7 = .ok (.iload_n 1, 1) := by decide +kernel
theorem dX11_boundFirst_8 : decode cX11_boundFirst 8 = .ok (.iaload, 1) := by decide +kernel
theorem dX11_boundFirst_9 : decode cX11_boundFirst 9 = .ok (.ineg, 1) := by decide +kernel
theorem dX11_boundFirst_10 : decode cX11_boundFirst 10 = .ok (.i2l, 1) := by decide +kernel
theorem dX11_boundFirst_11 : decode cX11_boundFirst 11 = .ok (.lload_n 3, 1) := by decide +kernel
theorem dX11_boundFirst_12 : decode cX11_boundFirst 12 = .ok (.aload_n 0, 1) := by decide +kernel
theorem dX11_boundFirst_13 : decode cX11_boundFirst 13 = .ok (.getfield 20, 3) := by decide +kernel
theorem dX11_boundFirst_16 : decode cX11_boundFirst 16 = .ok (.iload_n 2, 1) := by decide +kernel
theorem dX11_boundFirst_17 : decode cX11_boundFirst 17 = .ok (.invokevirtual 268, 3) := by decide +kernel
theorem dX11_boundFirst_20 : decode cX11_boundFirst 20 = .ok (.i2l, 1) := by decide +kernel
theorem dX11_boundFirst_21 : decode cX11_boundFirst 21 = .ok (.lsub, 1) := by decide +kernel
theorem dX11_boundFirst_22 : decode cX11_boundFirst 22 = .ok (.invokestatic 271, 3) := by decide +kernel
theorem dX11_boundFirst_25 : decode cX11_boundFirst 25 = .ok (.lstore 5, 2) := by decide +kernel
theorem dX11_boundFirst_27 : decode cX11_boundFirst 27 = .ok (.aload_n 0, 1) := by decide +kernel
theorem dX11_boundFirst_28 : decode cX11_boundFirst 28 = .ok (.getfield 20, 3) := by decide +kernel
theorem dX11_boundFirst_31 : decode cX11_boundFirst 31 = .ok (.iload_n 1, 1) := by decide +kernel
theorem dX11_boundFirst_32 : decode cX11_boundFirst 32 = .ok (.invokevirtual 268, 3) := by decide +kernel
theorem dX11_boundFirst_35 : decode cX11_boundFirst 35 = .ok (.i2l, 1) := by decide +kernel
theorem dX11_boundFirst_36 : decode cX11_boundFirst 36 = .ok (.lload_n 3, 1) := by decide +kernel
theorem dX11_boundFirst_37 : decode cX11_boundFirst 37 = .ok (.aload_n 0, 1) := by decide +kernel
theorem dX11_boundFirst_38 : decode cX11_boundFirst 38 = .ok (.getfield 20, 3) := by decide +kernel
theorem dX11_boundFirst_41 : decode cX11_boundFirst 41 = .ok (.getfield 98, 3) := by decide +kernel
theorem dX11_boundFirst_44 : decode cX11_boundFirst 44 = .ok (.iload_n 2, 1) := by decide +kernel
theorem dX11_boundFirst_45 : decode cX11_boundFirst 45 = .ok (.iaload, 1) := by decide +kernel
theorem dX11_boundFirst_46 : decode cX11_boundFirst 46 = .ok (.i2l, 1) := by decide +kernel
theorem dX11_boundFirst_47 : decode cX11_boundFirst 47 = .ok (.ladd, 1) := by decide +kernel
theorem dX11_boundFirst_48 : decode cX11_boundFirst 48 = .ok (.invokestatic 275, 3) := by decide +kernel
theorem dX11_boundFirst_51 : decode cX11_boundFirst 51 = .ok (.lstore 7, 2) := by decide +kernel
theorem dX11_boundFirst_53 : decode cX11_boundFirst 53 = .ok (.aload_n 0, 1) := by decide +kernel
theorem dX11_boundFirst_54 : decode cX11_boundFirst 54 = .ok (.getfield 77, 3) := by decide +kernel
theorem dX11_boundFirst_57 : decode cX11_boundFirst 57 = .ok (.lload 5, 2) := by decide +kernel
theorem dX11_boundFirst_59 : decode cX11_boundFirst 59 = .ok (.lload 7, 2) := by decide +kernel
theorem dX11_boundFirst_61 : decode cX11_boundFirst 61 = .ok (.invokevirtual 277, 3) := by decide +kernel
theorem dX11_boundFirst_64 : decode cX11_boundFirst 64 = .ok (.return_, 1) := by decide +kernel
theorem dX11_firstChange_0 : decode cX11_firstChange 0 = .ok (.aload_n 0, 1) := by decide +kernel
theorem dX11_firstChange_1 : decode cX11_firstChange 1 = .ok (.getfield 77, 3) := by decide +kernel
theorem dX11_firstChange_4 : decode cX11_firstChange 4 = .ok (.getfield 281, 3) := by decide +kernel
theorem dX11_firstChange_7 : decode cX11_firstChange 7 = .ok (.lstore_n 3, 1) := by decide +kernel
theorem dX11_firstChange_8 : decode cX11_firstChange 8 = .ok (.iconst 0, 1) := by decide +kernel
theorem dX11_firstChange_9 : decode cX11_firstChange 9 = .ok (.istore 5, 2) := by decide +kernel
theorem dX11_firstChange_11 : decode cX11_firstChange 11 = .ok (.iload 5, 2) := by decide +kernel
theorem dX11_firstChange_13 : decode cX11_firstChange 13 = .ok (.iconst 3, 1) := by decide +kernel
theorem dX11_firstChange_14 : decode cX11_firstChange 14 = .ok (.if_icmp .ge 39, 3) := by decide +kernel
theorem dX11_firstChange_17 : decode cX11_firstChange 17 = .ok (.lload_n 3, 1) := by decide +kernel
theorem dX11_firstChange_18 : decode cX11_firstChange 18 = .ok (.aload_n 0, 1) := by decide +kernel
theorem dX11_firstChange_19 : decode cX11_firstChange 19 = .ok (.getfield 77, 3) := by decide +kernel
theorem dX11_firstChange_22 : decode cX11_firstChange 22 = .ok (.getfield 285, 3) := by decide +kernel
theorem dX11_firstChange_25 : decode cX11_firstChange 25 = .ok (.lcmp, 1) := by decide +kernel
theorem dX11_firstChange_26 : decode cX11_firstChange 26 = .ok (.ifCond .gt 27, 3) := by decide +kernel
theorem dX11_firstChange_29 : decode cX11_firstChange 29 = .ok (.lload_n 3, 1) := by decide +kernel
theorem dX11_firstChange_30 : decode cX11_firstChange 30 = .ok (.lconst 0, 1) := by decide +kernel
theorem dX11_firstChange_31 : decode cX11_firstChange 31 = .ok (.lcmp, 1) := by decide +kernel
theorem dX11_firstChange_32 : decode cX11_firstChange 32 = .ok (.ifCond .eq 11, 3) := by decide +kernel
theorem dX11_firstChange_35 : decode cX11_firstChange 35 = .ok (.lload_n 3, 1) := by decide +kernel
theorem dX11_firstChange_36 : decode cX11_firstChange 36 = .ok (.lload_n 1, 1) := by decide +kernel
theorem dX11_firstChange_37 : decode cX11_firstChange 37 = .ok (.lcmp, 1) := by decide +kernel
theorem dX11_firstChange_38 : decode cX11_firstChange 38 = .ok (.ifCond .eq 5, 3) := by decide +kernel
theorem dX11_firstChange_41 : decode cX11_firstChange 41 = .ok (.lload_n 3, 1) := by decide +kernel
theorem dX11_firstChange_42 : decode cX11_firstChange 42 = .ok (.lreturn, 1) := by decide +kernel
theorem dX11_firstChange_43 : decode cX11_firstChange 43 = .ok (.lload_n 3, 1) := by decide +kernel
theorem dX11_firstChange_44 : decode cX11_firstChange 44 = .ok (.lconst 1, 1) := by decide +kernel
theorem dX11_firstChange_45 : decode cX11_firstChange 45 = .ok (.ladd, 1) := by decide +kernel
theorem dX11_firstChange_46 : decode cX11_firstChange 46 = .ok (.lstore_n 3, 1) := by decide +kernel
theorem dX11_firstChange_47 : decode cX11_firstChange 47 = .ok (.iinc 5 1, 3) := by decide +kernel
theorem dX11_firstChange_50 : decode cX11_firstChange 50 = .ok (.goto (-39), 3) := by decide +kernel
theorem dX11_firstChange_53 : decode cX11_firstChange 53 = .ok (.lconst 0, 1) := by decide +kernel
theorem dX11_firstChange_54 : decode cX11_firstChange 54 = .ok (.lreturn, 1) := by decide +kernel
theorem dX11_tellFirstPair_0 : decode cX11_tellFirstPair 0 = .ok (.aload_n 0, 1) := by decide +kernel
theorem dX11_tellFirstPair_1 : decode cX11_tellFirstPair 1 = .ok (.getfield 29, 3) := by decide +kernel
theorem dX11_tellFirstPair_4 : decode cX11_tellFirstPair 4 = .ok (.getfield 288, 3) := by decide +kernel
theorem dX11_tellFirstPair_7 : decode cX11_tellFirstPair 7 = .ok (.ifCond .le 4, 3) := by decide +kernel
theorem dX11_tellFirstPair_10 : decode cX11_tellFirstPair 10 = .ok (.return_, 1) := by decide +kernel
theorem dX11_tellFirstPair_11 : decode cX11_tellFirstPair 11 = .ok (.aload_n 0, 1) := by decide +kernel
theorem dX11_tellFirstPair_12 : decode cX11_tellFirstPair 12 = .ok (.getfield 29, 3) := by decide +kernel
theorem dX11_tellFirstPair_15 : decode cX11_tellFirstPair 15 = .ok (.iload_n 1, 1) := by decide +kernel
theorem dX11_tellFirstPair_16 : decode cX11_tellFirstPair 16 = .ok (.invokevirtual 210, 3) := by decide +kernel
theorem dX11_tellFirstPair_19 : decode cX11_tellFirstPair 19 = .ok (.aload_n 0, 1) := by decide +kernel
theorem dX11_tellFirstPair_20 : decode cX11_tellFirstPair 20 = .ok (.getfield 29, 3) := by decide +kernel
theorem dX11_tellFirstPair_23 : decode cX11_tellFirstPair 23 = .ok (.iload_n 2, 1) := by decide +kernel
theorem dX11_tellFirstPair_24 : decode cX11_tellFirstPair 24 = .ok (.invokevirtual 210, 3) := by decide +kernel
theorem dX11_tellFirstPair_27 : decode cX11_tellFirstPair 27 = .ok (.aload_n 0, 1) := by decide +kernel
theorem dX11_tellFirstPair_28 : decode cX11_tellFirstPair 28 = .ok (.getfield 29, 3) := by decide +kernel
theorem dX11_tellFirstPair_31 : decode cX11_tellFirstPair 31 = .ok (.aload_n 0, 1) := by decide +kernel
theorem dX11_tellFirstPair_32 : decode cX11_tellFirstPair 32 = .ok (.getfield 20, 3) := by decide +kernel
theorem dX11_tellFirstPair_35 : decode cX11_tellFirstPair 35 = .ok (.getfield 98, 3) := by decide +kernel
theorem dX11_tellFirstPair_38 : decode cX11_tellFirstPair 38 = .ok (.iload_n 1, 1) := by decide +kernel
theorem dX11_tellFirstPair_39 : decode cX11_tellFirstPair 39 = .ok (.iaload, 1) := by decide +kernel
theorem dX11_tellFirstPair_40 : decode cX11_tellFirstPair 40 = .ok (.iload_n 3, 1) := by decide +kernel
theorem dX11_tellFirstPair_41 : decode cX11_tellFirstPair 41 = .ok (.iadd, 1) := by decide +kernel
theorem dX11_tellFirstPair_42 : decode cX11_tellFirstPair 42 = .ok (.invokevirtual 210, 3) := by decide +kernel
theorem dX11_tellFirstPair_45 : decode cX11_tellFirstPair 45 = .ok (.aload_n 0, 1) := by decide +kernel
theorem dX11_tellFirstPair_46 : decode cX11_tellFirstPair 46 = .ok (.getfield 29, 3) := by decide +kernel
theorem dX11_tellFirstPair_49 : decode cX11_tellFirstPair 49 = .ok (.aload_n 0, 1) := by decide +kernel
theorem dX11_tellFirstPair_50 : decode cX11_tellFirstPair 50 = .ok (.getfield 20, 3) := by decide +kernel
theorem dX11_tellFirstPair_53 : decode cX11_tellFirstPair 53 = .ok (.getfield 98, 3) := by decide +kernel
theorem dX11_tellFirstPair_56 : decode cX11_tellFirstPair 56 = .ok (.iload_n 2, 1) := by decide +kernel
theorem dX11_tellFirstPair_57 : decode cX11_tellFirstPair 57 = .ok (.iaload, 1) := by decide +kernel
theorem dX11_tellFirstPair_58 : decode cX11_tellFirstPair 58 = .ok (.iload 4, 2) := by decide +kernel
theorem dX11_tellFirstPair_60 : decode cX11_tellFirstPair 60 = .ok (.iadd, 1) := by decide +kernel
theorem dX11_tellFirstPair_61 : decode cX11_tellFirstPair 61 = .ok (.invokevirtual 210, 3) := by decide +kernel
theorem dX11_tellFirstPair_64 : decode cX11_tellFirstPair 64 = .ok (.return_, 1) := by decide +kernel
theorem dX11_two_0 : decode cX11_two 0 = .ok (.iload_n 1, 1) := by decide +kernel
theorem dX11_two_1 : decode cX11_two 1 = .ok (.invokestatic 142, 3) := by decide +kernel
theorem dX11_two_4 : decode cX11_two 4 = .ok (.ifCond .ne 5, 3) := by decide +kernel
theorem dX11_two_7 : decode cX11_two 7 = .ok (.iconst (-1), 1) := by decide +kernel
theorem dX11_two_8 : decode cX11_two 8 = .ok (.ireturn, 1) := by decide +kernel
theorem dX11_two_9 : decode cX11_two 9 = .ok (.iload_n 2, 1) := by decide +kernel
theorem dX11_two_10 : decode cX11_two 10 = .ok (.i2l, 1) := by decide +kernel
theorem dX11_two_11 : decode cX11_two 11 = .ok (.aload_n 0, 1) := by decide +kernel
theorem dX11_two_12 : decode cX11_two 12 = .ok (.getfield 10, 3) := by decide +kernel
theorem dX11_two_15 : decode cX11_two 15 = .ok (.iload_n 1, 1) := by decide +kernel
theorem dX11_two_16 : decode cX11_two 16 = .ok (.invokevirtual 174, 3) := by decide +kernel
theorem dX11_two_19 : decode cX11_two 19 = .ok (.i2l, 1) := by decide +kernel
theorem dX11_two_20 : decode cX11_two 20 = .ok (.lsub, 1) := by decide +kernel
theorem dX11_two_21 : decode cX11_two 21 = .ok (.lstore 5, 2) := by decide +kernel
theorem dX11_two_23 : decode cX11_two 23 = .ok (.iload_n 3, 1) := by decide +kernel
theorem dX11_two_24 : decode cX11_two 24 = .ok (.i2l, 1) := by decide +kernel
theorem dX11_two_25 : decode cX11_two 25 = .ok (.aload_n 0, 1) := by decide +kernel
theorem dX11_two_26 : decode cX11_two 26 = .ok (.getfield 10, 3) := by decide +kernel
theorem dX11_two_29 : decode cX11_two 29 = .ok (.invokevirtual 180, 3) := by decide +kernel
theorem dX11_two_32 : decode cX11_two 32 = .ok (.i2l, 1) := by decide +kernel
theorem dX11_two_33 : decode cX11_two 33 = .ok (.lsub, 1) := by decide +kernel
theorem dX11_two_34 : decode cX11_two 34 = .ok (.lstore 7, 2) := by decide +kernel
theorem dX11_two_36 : decode cX11_two 36 = .ok (.iload 4, 2) := by decide +kernel
theorem dX11_two_38 : decode cX11_two 38 = .ok (.i2l, 1) := by decide +kernel
theorem dX11_two_39 : decode cX11_two 39 = .ok (.aload_n 0, 1) := by decide +kernel
theorem dX11_two_40 : decode cX11_two 40 = .ok (.getfield 10, 3) := by decide +kernel
theorem dX11_two_43 : decode cX11_two 43 = .ok (.invokevirtual 184, 3) := by decide +kernel
theorem dX11_two_46 : decode cX11_two 46 = .ok (.i2l, 1) := by decide +kernel
theorem dX11_two_47 : decode cX11_two 47 = .ok (.lsub, 1) := by decide +kernel
theorem dX11_two_48 : decode cX11_two 48 = .ok (.lstore 9, 2) := by decide +kernel
theorem dX11_two_50 : decode cX11_two 50 = .ok (.iconst 0, 1) := by decide +kernel
theorem dX11_two_51 : decode cX11_two 51 = .ok (.istore 11, 2) := by decide +kernel
theorem dX11_two_53 : decode cX11_two 53 = .ok (.aload_n 0, 1) := by decide +kernel
theorem dX11_two_54 : decode cX11_two 54 = .ok (.getfield 29, 3) := by decide +kernel
theorem dX11_two_57 : decode cX11_two 57 = .ok (.invokevirtual 207, 3) := by decide +kernel
theorem dX11_two_60 : decode cX11_two 60 = .ok (.iconst 0, 1) := by decide +kernel
theorem dX11_two_61 : decode cX11_two 61 = .ok (.istore 12, 2) := by decide +kernel
theorem dX11_two_63 : decode cX11_two 63 = .ok (.iload 12, 2) := by decide +kernel
theorem dX11_two_65 : decode cX11_two 65 = .ok (.aload_n 0, 1) := by decide +kernel
theorem dX11_two_66 : decode cX11_two 66 = .ok (.getfield 20, 3) := by decide +kernel
theorem dX11_two_69 : decode cX11_two 69 = .ok (.getfield 104, 3) := by decide +kernel
theorem dX11_two_72 : decode cX11_two 72 = .ok (.if_icmp .ge 172, 3) := by decide +kernel
theorem dX11_two_75 : decode cX11_two 75 = .ok (.iload 12, 2) := by decide +kernel
theorem dX11_two_77 : decode cX11_two 77 = .ok (.iconst 1, 1) := by decide +kernel
theorem dX11_two_78 : decode cX11_two 78 = .ok (.iadd, 1) := by decide +kernel
theorem dX11_two_79 : decode cX11_two 79 = .ok (.istore 13, 2) := by decide +kernel
theorem dX11_two_81 : decode cX11_two 81 = .ok (.iload 13, 2) := by decide +kernel
theorem dX11_two_83 : decode cX11_two 83 = .ok (.aload_n 0, 1) := by decide +kernel
theorem dX11_two_84 : decode cX11_two 84 = .ok (.getfield 20, 3) := by decide +kernel
theorem dX11_two_87 : decode cX11_two 87 = .ok (.getfield 104, 3) := by decide +kernel
theorem dX11_two_90 : decode cX11_two 90 = .ok (.if_icmp .ge 148, 3) := by decide +kernel
theorem dX11_two_93 : decode cX11_two 93 = .ok (.aload_n 0, 1) := by decide +kernel
theorem dX11_two_94 : decode cX11_two 94 = .ok (.iload 12, 2) := by decide +kernel
theorem dX11_two_96 : decode cX11_two 96 = .ok (.iload 13, 2) := by decide +kernel
theorem dX11_two_98 : decode cX11_two 98 = .ok (.lload 5, 2) := by decide +kernel
theorem dX11_two_100 : decode cX11_two 100 = .ok (.invokevirtual 252, 3) := by decide +kernel
theorem dX11_two_103 : decode cX11_two 103 = .ok (.aload_n 0, 1) := by decide +kernel
theorem dX11_two_104 : decode cX11_two 104 = .ok (.getfield 77, 3) := by decide +kernel
theorem dX11_two_107 : decode cX11_two 107 = .ok (.lconst 0, 1) := by decide +kernel
theorem dX11_two_108 : decode cX11_two 108 = .ok (.aload_n 0, 1) := by decide +kernel
theorem dX11_two_109 : decode cX11_two 109 = .ok (.getfield 20, 3) := by decide +kernel
theorem dX11_two_112 : decode cX11_two 112 = .ok (.getfield 164, 3) := by decide +kernel
theorem dX11_two_115 : decode cX11_two 115 = .ok (.iload 12, 2) := by decide +kernel
theorem dX11_two_117 : decode cX11_two 117 = .ok (.iaload, 1) := by decide +kernel
theorem dX11_two_118 : decode cX11_two 118 = .ok (.aload_n 0, 1) := by decide +kernel
theorem dX11_two_119 : decode cX11_two 119 = .ok (.getfield 20, 3) := by decide +kernel
theorem dX11_two_122 : decode cX11_two 122 = .ok (.getfield 164, 3) := by decide +kernel
theorem dX11_two_125 : decode cX11_two 125 = .ok (.iload 13, 2) := by decide +kernel
theorem dX11_two_127 : decode cX11_two 127 = .ok (.iaload, 1) := by decide +kernel
theorem dX11_two_128 : decode cX11_two 128 = .ok (.isub, 1) := by decide +kernel
theorem dX11_two_129 : decode cX11_two 129 = .ok (.i2l, 1) := by decide +kernel
theorem dX11_two_130 : decode cX11_two 130 = .ok (.lload 7, 2) := by decide +kernel
theorem dX11_two_132 : decode cX11_two 132 = .ok (.aload_n 0, 1) := by decide +kernel
theorem dX11_two_133 : decode cX11_two 133 = .ok (.getfield 20, 3) := by decide +kernel
theorem dX11_two_136 : decode cX11_two 136 = .ok (.getfield 164, 3) := by decide +kernel
theorem dX11_two_139 : decode cX11_two 139 = .ok (.iload 13, 2) := by decide +kernel
theorem dX11_two_141 : decode cX11_two 141 = .ok (.iaload, 1) := by decide +kernel
theorem dX11_two_142 : decode cX11_two 142 = .ok (.i2l, 1) := by decide +kernel
theorem dX11_two_143 : decode cX11_two 143 = .ok (.lload 5, 2) := by decide +kernel
theorem dX11_two_145 : decode cX11_two 145 = .ok (.lmul, 1) := by decide +kernel
theorem dX11_two_146 : decode cX11_two 146 = .ok (.lsub, 1) := by decide +kernel
theorem dX11_two_147 : decode cX11_two 147 = .ok (.invokevirtual 256, 3) := by decide +kernel
theorem dX11_two_150 : decode cX11_two 150 = .ok (.aload_n 0, 1) := by decide +kernel
theorem dX11_two_151 : decode cX11_two 151 = .ok (.getfield 77, 3) := by decide +kernel
theorem dX11_two_154 : decode cX11_two 154 = .ok (.lconst 0, 1) := by decide +kernel
theorem dX11_two_155 : decode cX11_two 155 = .ok (.aload_n 0, 1) := by decide +kernel
theorem dX11_two_156 : decode cX11_two 156 = .ok (.getfield 20, 3) := by decide +kernel
theorem dX11_two_159 : decode cX11_two 159 = .ok (.getfield 167, 3) := by decide +kernel
theorem dX11_two_162 : decode cX11_two 162 = .ok (.iload 12, 2) := by decide +kernel
theorem dX11_two_164 : decode cX11_two 164 = .ok (.iaload, 1) := by decide +kernel
theorem dX11_two_165 : decode cX11_two 165 = .ok (.aload_n 0, 1) := by decide +kernel
theorem dX11_two_166 : decode cX11_two 166 = .ok (.getfield 20, 3) := by decide +kernel
theorem dX11_two_169 : decode cX11_two 169 = .ok (.getfield 167, 3) := by decide +kernel
theorem dX11_two_172 : decode cX11_two 172 = .ok (.iload 13, 2) := by decide +kernel
theorem dX11_two_174 : decode cX11_two 174 = .ok (.iaload, 1) := by decide +kernel
theorem dX11_two_175 : decode cX11_two 175 = .ok (.isub, 1) := by decide +kernel
theorem dX11_two_176 : decode cX11_two 176 = .ok (.i2l, 1) := by decide +kernel
theorem dX11_two_177 : decode cX11_two 177 = .ok (.lload 9, 2) := by decide +kernel
theorem dX11_two_179 : decode cX11_two 179 = .ok (.aload_n 0, 1) := by decide +kernel
theorem dX11_two_180 : decode cX11_two 180 = .ok (.getfield 20, 3) := by decide +kernel
theorem dX11_two_183 : decode cX11_two 183 = .ok (.getfield 167, 3) := by decide +kernel
theorem dX11_two_186 : decode cX11_two 186 = .ok (.iload 13, 2) := by decide +kernel
theorem dX11_two_188 : decode cX11_two 188 = .ok (.iaload, 1) := by decide +kernel
theorem dX11_two_189 : decode cX11_two 189 = .ok (.i2l, 1) := by decide +kernel
theorem dX11_two_190 : decode cX11_two 190 = .ok (.lload 5, 2) := by decide +kernel
theorem dX11_two_192 : decode cX11_two 192 = .ok (.lmul, 1) := by decide +kernel
theorem dX11_two_193 : decode cX11_two 193 = .ok (.lsub, 1) := by decide +kernel
theorem dX11_two_194 : decode cX11_two 194 = .ok (.invokevirtual 256, 3) := by decide +kernel
theorem dX11_two_197 : decode cX11_two 197 = .ok (.aload_n 0, 1) := by decide +kernel
theorem dX11_two_198 : decode cX11_two 198 = .ok (.lload 5, 2) := by decide +kernel
theorem dX11_two_200 : decode cX11_two 200 = .ok (.invokevirtual 260, 3) := by decide +kernel
theorem dX11_two_203 : decode cX11_two 203 = .ok (.lstore 14, 2) := by decide +kernel
theorem dX11_two_205 : decode cX11_two 205 = .ok (.lload 14, 2) := by decide +kernel
theorem dX11_two_207 : decode cX11_two 207 = .ok (.lconst 0, 1) := by decide +kernel
theorem dX11_two_208 : decode cX11_two 208 = .ok (.lcmp, 1) := by decide +kernel
theorem dX11_two_209 : decode cX11_two 209 = .ok (.ifCond .eq 23, 3) := by decide +kernel
theorem dX11_two_212 : decode cX11_two 212 = .ok (.aload_n 0, 1) := by decide +kernel
theorem dX11_two_213 : decode cX11_two 213 = .ok (.iload 12, 2) := by decide +kernel
theorem dX11_two_215 : decode cX11_two 215 = .ok (.iload 13, 2) := by decide +kernel
theorem dX11_two_217 : decode cX11_two 217 = .ok (.lload 14, 2) := by decide +kernel
theorem dX11_two_219 : decode cX11_two 219 = .ok (.l2i, 1) := by decide +kernel
theorem dX11_two_220 : decode cX11_two 220 = .ok (.lload 5, 2) := by decide +kernel
theorem dX11_two_222 : decode cX11_two 222 = .ok (.lload 14, 2) := by decide +kernel
theorem dX11_two_224 : decode cX11_two 224 = .ok (.lsub, 1) := by decide +kernel
theorem dX11_two_225 : decode cX11_two 225 = .ok (.l2i, 1) := by decide +kernel
theorem dX11_two_226 : decode cX11_two 226 = .ok (.invokevirtual 264, 3) := by decide +kernel
theorem dX11_two_229 : decode cX11_two 229 = .ok (.iinc 11 1, 3) := by decide +kernel
theorem dX11_two_232 : decode cX11_two 232 = .ok (.iinc 13 1, 3) := by decide +kernel
theorem dX11_two_235 : decode cX11_two 235 = .ok (.goto (-154), 3) := by decide +kernel
theorem dX11_two_238 : decode cX11_two 238 = .ok (.iinc 12 1, 3) := by decide +kernel
theorem dX11_two_241 : decode cX11_two 241 = .ok (.goto (-178), 3) := by decide +kernel
theorem dX11_two_244 : decode cX11_two 244 = .ok (.iload 11, 2) := by decide +kernel
theorem dX11_two_246 : decode cX11_two 246 = .ok (.ireturn, 1) := by decide +kernel
theorem dX11_isPumpEnd_0 : decode cX11_isPumpEnd 0 = .ok (.iload_n 1, 1) := by decide +kernel
theorem dX11_isPumpEnd_1 : decode cX11_isPumpEnd 1 = .ok (.iconst (-1), 1) := by decide +kernel
theorem dX11_isPumpEnd_2 : decode cX11_isPumpEnd 2 = .ok (.if_icmp .eq 15, 3) := by decide +kernel
theorem dX11_isPumpEnd_5 : decode cX11_isPumpEnd 5 = .ok (.aload_n 0, 1) := by decide +kernel
theorem dX11_isPumpEnd_6 : decode cX11_isPumpEnd 6 = .ok (.getfield 20, 3) := by decide +kernel
theorem dX11_isPumpEnd_9 : decode cX11_isPumpEnd 9 = .ok (.iload_n 1, 1) := by decide +kernel
theorem dX11_isPumpEnd_10 : decode cX11_isPumpEnd 10 = .ok (.iconst 0, 1) := by decide +kernel
theorem dX11_isPumpEnd_11 : decode cX11_isPumpEnd 11 = .ok (.invokevirtual 295, 3) := by decide +kernel
theorem dX11_isPumpEnd_14 : decode cX11_isPumpEnd 14 = .ok (.ifCond .eq 7, 3) := by decide +kernel
theorem dX11_isPumpEnd_17 : decode cX11_isPumpEnd 17 = .ok (.iconst 1, 1) := by decide +kernel
theorem dX11_isPumpEnd_18 : decode cX11_isPumpEnd 18 = .ok (.goto 4, 3) := by decide +kernel
theorem dX11_isPumpEnd_21 : decode cX11_isPumpEnd 21 = .ok (.iconst 0, 1) := by decide +kernel
theorem dX11_isPumpEnd_22 : decode cX11_isPumpEnd 22 = .ok (.ireturn, 1) := by decide +kernel
theorem dX11_pump_0 : decode cX11_pump 0 = .ok (.aload_n 0, 1) := by decide +kernel
theorem dX11_pump_1 : decode cX11_pump 1 = .ok (.iload_n 1, 1) := by decide +kernel
theorem dX11_pump_2 : decode cX11_pump 2 = .ok (.invokevirtual 289, 3) := by decide +kernel
theorem dX11_pump_5 : decode cX11_pump 5 = .ok (.ifCond .eq 20, 3) := by decide +kernel
theorem dX11_pump_8 : decode cX11_pump 8 = .ok (.aload_n 0, 1) := by decide +kernel
theorem dX11_pump_9 : decode cX11_pump 9 = .ok (.iload_n 2, 1) := by decide +kernel
theorem dX11_pump_10 : decode cX11_pump 10 = .ok (.invokevirtual 289, 3) := by decide +kernel
theorem dX11_pump_13 : decode cX11_pump 13 = .ok (.ifCond .eq 12, 3) := by decide +kernel
theorem dX11_pump_16 : decode cX11_pump 16 = .ok (.iload_n 1, 1) := by decide +kernel
theorem dX11_pump_17 : decode cX11_pump 17 = .ok (.iload_n 2, 1) := by decide +kernel
theorem dX11_pump_18 : decode cX11_pump 18 = .ok (.if_icmp .eq 7, 3) := by decide +kernel
theorem dX11_pump_21 : decode cX11_pump 21 = .ok (.iconst 1, 1) := by decide +kernel
theorem dX11_pump_22 : decode cX11_pump 22 = .ok (.goto 4, 3) := by decide +kernel
theorem dX11_pump_25 : decode cX11_pump 25 = .ok (.iconst 0, 1) := by decide +kernel
theorem dX11_pump_26 : decode cX11_pump 26 = .ok (.istore 5, 2) := by decide +kernel
theorem dX11_pump_28 : decode cX11_pump 28 = .ok (.iload 5, 2) := by decide +kernel
theorem dX11_pump_30 : decode cX11_pump 30 = .ok (.ifCond .eq 13, 3) := by decide +kernel
theorem dX11_pump_33 : decode cX11_pump 33 = .ok (.iload_n 3, 1) := by decide +kernel
theorem dX11_pump_34 : decode cX11_pump 34 = .ok (.iconst 1, 1) := by decide +kernel
theorem dX11_pump_35 : decode cX11_pump 35 = .ok (.bipush 50, 2) := by decide +kernel
theorem dX11_pump_37 : decode cX11_pump 37 = .ok (.invokestatic 81, 3) := by decide +kernel
theorem dX11_pump_40 : decode cX11_pump 40 = .ok (.ifCond .ne 5, 3) := by decide +kernel
theorem dX11_pump_43 : decode cX11_pump 43 = .ok (.iconst (-1), 1) := by decide +kernel
theorem dX11_pump_44 : decode cX11_pump 44 = .ok (.ireturn, 1) := by decide +kernel
theorem dX11_pump_45 : decode cX11_pump 45 = .ok (.aload_n 0, 1) := by decide +kernel
theorem dX11_pump_46 : decode cX11_pump 46 = .ok (.getfield 49, 3) := by decide +kernel
theorem dX11_pump_49 : decode cX11_pump 49 = .ok (.iload_n 1, 1) := by decide +kernel
theorem dX11_pump_50 : decode cX11_pump 50 = .ok (.iload_n 2, 1) := by decide +kernel
theorem dX11_pump_51 : decode cX11_pump 51 = .ok (.iload_n 3, 1) := by decide +kernel
theorem dX11_pump_52 : decode cX11_pump 52 = .ok (.iload 4, 2) := by decide +kernel
theorem dX11_pump_54 : decode cX11_pump 54 = .ok (.invokevirtual 292, 3) := by decide +kernel
theorem dX11_pump_57 : decode cX11_pump 57 = .ok (.ireturn, 1) := by decide +kernel
theorem dX11_run_0 : decode cX11_run 0 = .ok (.aload_n 0, 1) := by decide +kernel
theorem dX11_run_1 : decode cX11_run 1 = .ok (.getfield 49, 3) := by decide +kernel
theorem dX11_run_4 : decode cX11_run 4 = .ok (.iload_n 1, 1) := by decide +kernel
theorem dX11_run_5 : decode cX11_run 5 = .ok (.invokevirtual 298, 3) := by decide +kernel
theorem dX11_run_8 : decode cX11_run 8 = .ok (.ifCond .eq 18, 3) := by decide +kernel
theorem dX11_run_11 : decode cX11_run 11 = .ok (.iload_n 2, 1) := by decide +kernel
theorem dX11_run_12 : decode cX11_run 12 = .ok (.ifCond .eq 14, 3) := by decide +kernel
theorem dX11_run_15 : decode cX11_run 15 = .ok (.iload_n 2, 1) := by decide +kernel
theorem dX11_run_16 : decode cX11_run 16 = .ok (.bipush (-99), 2) := by decide +kernel
theorem dX11_run_18 : decode cX11_run 18 = .ok (.bipush 99, 2) := by decide +kernel
theorem dX11_run_20 : decode cX11_run 20 = .ok (.invokestatic 81, 3) := by decide +kernel
theorem dX11_run_23 : decode cX11_run 23 = .ok (.ifCond .ne 5, 3) := by decide +kernel
theorem dX11_run_26 : decode cX11_run 26 = .ok (.iconst (-1), 1) := by decide +kernel
theorem dX11_run_27 : decode cX11_run 27 = .ok (.ireturn, 1) := by decide +kernel
theorem dX11_run_28 : decode cX11_run 28 = .ok (.aload_n 0, 1) := by decide +kernel
theorem dX11_run_29 : decode cX11_run 29 = .ok (.getfield 49, 3) := by decide +kernel
theorem dX11_run_32 : decode cX11_run 32 = .ok (.iload_n 1, 1) := by decide +kernel
theorem dX11_run_33 : decode cX11_run 33 = .ok (.iload_n 2, 1) := by decide +kernel
theorem dX11_run_34 : decode cX11_run 34 = .ok (.invokevirtual 299, 3) := by decide +kernel
theorem dX11_run_37 : decode cX11_run 37 = .ok (.ifCond .ne 6, 3) := by decide +kernel
theorem dX11_run_40 : decode cX11_run 40 = .ok (.bipush (-2), 2) := by decide +kernel
theorem dX11_run_42 : decode cX11_run 42 = .ok (.ireturn, 1) := by decide +kernel
theorem dX11_run_43 : decode cX11_run 43 = .ok (.aload_n 0, 1) := by decide +kernel
theorem dX11_run_44 : decode cX11_run 44 = .ok (.getfield 49, 3) := by decide +kernel
theorem dX11_run_47 : decode cX11_run 47 = .ok (.iload_n 1, 1) := by decide +kernel
theorem dX11_run_48 : decode cX11_run 48 = .ok (.iload_n 2, 1) := by decide +kernel
theorem dX11_run_49 : decode cX11_run 49 = .ok (.invokevirtual 302, 3) := by decide +kernel
theorem dX11_run_52 : decode cX11_run 52 = .ok (.iload_n 2, 1) := by decide +kernel
theorem dX11_run_53 : decode cX11_run 53 = .ok (.invokestatic 204, 3) := by decide +kernel
theorem dX11_run_56 : decode cX11_run 56 = .ok (.aload_n 0, 1) := by decide +kernel
theorem dX11_run_57 : decode cX11_run 57 = .ok (.getfield 49, 3) := by decide +kernel
theorem dX11_run_60 : decode cX11_run 60 = .ok (.getfield 305, 3) := by decide +kernel
theorem dX11_run_63 : decode cX11_run 63 = .ok (.iload_n 1, 1) := by decide +kernel
theorem dX11_run_64 : decode cX11_run 64 = .ok (.iaload, 1) := by decide +kernel
theorem dX11_run_65 : decode cX11_run 65 = .ok (.imul, 1) := by decide +kernel
theorem dX11_run_66 : decode cX11_run 66 = .ok (.ireturn, 1) := by decide +kernel
theorem dX11_best_0 : decode cX11_best 0 = .ok (.aload_n 0, 1) := by decide +kernel
theorem dX11_best_1 : decode cX11_best 1 = .ok (.getfield 49, 3) := by decide +kernel
theorem dX11_best_4 : decode cX11_best 4 = .ok (.iload_n 1, 1) := by decide +kernel
theorem dX11_best_5 : decode cX11_best 5 = .ok (.invokevirtual 298, 3) := by decide +kernel
theorem dX11_best_8 : decode cX11_best 8 = .ok (.ifCond .eq 10, 3) := by decide +kernel
theorem dX11_best_11 : decode cX11_best 11 = .ok (.iload_n 2, 1) := by decide +kernel
theorem dX11_best_12 : decode cX11_best 12 = .ok (.invokestatic 142, 3) := by decide +kernel
theorem dX11_best_15 : decode cX11_best 15 = .ok (.ifCond .ne 5, 3) := by decide +kernel
theorem dX11_best_18 : decode cX11_best 18 = .ok (.iconst (-1), 1) := by decide +kernel
theorem dX11_best_19 : decode cX11_best 19 = .ok (.ireturn, 1) := by decide +kernel
theorem dX11_best_20 : decode cX11_best 20 = .ok (.aload_n 0, 1) := by decide +kernel
theorem dX11_best_21 : decode cX11_best 21 = .ok (.getfield 49, 3) := by decide +kernel
theorem dX11_best_24 : decode cX11_best 24 = .ok (.iload_n 1, 1) := by decide +kernel
theorem dX11_best_25 : decode cX11_best 25 = .ok (.iload_n 2, 1) := by decide +kernel
theorem dX11_best_26 : decode cX11_best 26 = .ok (.invokevirtual 308, 3) := by decide +kernel
theorem dX11_best_29 : decode cX11_best 29 = .ok (.aload_n 0, 1) := by decide +kernel
theorem dX11_best_30 : decode cX11_best 30 = .ok (.getfield 29, 3) := by decide +kernel
theorem dX11_best_33 : decode cX11_best 33 = .ok (.invokevirtual 207, 3) := by decide +kernel
theorem dX11_best_36 : decode cX11_best 36 = .ok (.aload_n 0, 1) := by decide +kernel
theorem dX11_best_37 : decode cX11_best 37 = .ok (.getfield 29, 3) := by decide +kernel
theorem dX11_best_40 : decode cX11_best 40 = .ok (.aload_n 0, 1) := by decide +kernel
theorem dX11_best_41 : decode cX11_best 41 = .ok (.getfield 49, 3) := by decide +kernel
theorem dX11_best_44 : decode cX11_best 44 = .ok (.getfield 311, 3) := by decide +kernel
theorem dX11_best_47 : decode cX11_best 47 = .ok (.invokevirtual 210, 3) := by decide +kernel
theorem dX11_best_50 : decode cX11_best 50 = .ok (.aload_n 0, 1) := by decide +kernel
theorem dX11_best_51 : decode cX11_best 51 = .ok (.getfield 29, 3) := by decide +kernel
theorem dX11_best_54 : decode cX11_best 54 = .ok (.aload_n 0, 1) := by decide +kernel
theorem dX11_best_55 : decode cX11_best 55 = .ok (.getfield 49, 3) := by decide +kernel
theorem dX11_best_58 : decode cX11_best 58 = .ok (.getfield 314, 3) := by decide +kernel
theorem dX11_best_61 : decode cX11_best 61 = .ok (.invokevirtual 210, 3) := by decide +kernel
theorem dX11_best_64 : decode cX11_best 64 = .ok (.aload_n 0, 1) := by decide +kernel
theorem dX11_best_65 : decode cX11_best 65 = .ok (.getfield 29, 3) := by decide +kernel
theorem dX11_best_68 : decode cX11_best 68 = .ok (.aload_n 0, 1) := by decide +kernel
theorem dX11_best_69 : decode cX11_best 69 = .ok (.getfield 49, 3) := by decide +kernel
theorem dX11_best_72 : decode cX11_best 72 = .ok (.getfield 317, 3) := by decide +kernel
theorem dX11_best_75 : decode cX11_best 75 = .ok (.invokevirtual 210, 3) := by decide +kernel
theorem dX11_best_78 : decode cX11_best 78 = .ok (.iconst 0, 1) := by decide +kernel
theorem dX11_best_79 : decode cX11_best 79 = .ok (.ireturn, 1) := by decide +kernel
theorem dX11_trim_0 : decode cX11_trim 0 = .ok (.iload_n 1, 1) := by decide +kernel
theorem dX11_trim_1 : decode cX11_trim 1 = .ok (.invokestatic 142, 3) := by decide +kernel
theorem dX11_trim_4 : decode cX11_trim 4 = .ok (.ifCond .ne 5, 3) := by decide +kernel
theorem dX11_trim_7 : decode cX11_trim 7 = .ok (.iconst (-1), 1) := by decide +kernel
theorem dX11_trim_8 : decode cX11_trim 8 = .ok (.ireturn, 1) := by decide +kernel
theorem dX11_trim_9 : decode cX11_trim 9 = .ok (.aload_n 0, 1) := by decide +kernel
theorem dX11_trim_10 : decode cX11_trim 10 = .ok (.getfield 10, 3) := by decide +kernel
theorem dX11_trim_13 : decode cX11_trim 13 = .ok (.iload_n 1, 1) := by decide +kernel
theorem dX11_trim_14 : decode cX11_trim 14 = .ok (.invokevirtual 187, 3) := by decide +kernel
theorem dX11_trim_17 : decode cX11_trim 17 = .ok (.ifCond .eq 12, 3) := by decide +kernel
theorem dX11_trim_20 : decode cX11_trim 20 = .ok (.aload_n 0, 1) := by decide +kernel
theorem dX11_trim_21 : decode cX11_trim 21 = .ok (.getfield 29, 3) := by decide +kernel
theorem dX11_trim_24 : decode cX11_trim 24 = .ok (.invokevirtual 207, 3) := by decide +kernel
theorem dX11_trim_27 : decode cX11_trim 27 = .ok (.iconst 0, 1) := by decide +kernel
theorem dX11_trim_28 : decode cX11_trim 28 = .ok (.ireturn, 1) := by decide +kernel
theorem dX11_trim_29 : decode cX11_trim 29 = .ok (.aload_n 0, 1) := by decide +kernel
theorem dX11_trim_30 : decode cX11_trim 30 = .ok (.getfield 49, 3) := by decide +kernel
theorem dX11_trim_33 : decode cX11_trim 33 = .ok (.iload_n 1, 1) := by decide +kernel
theorem dX11_trim_34 : decode cX11_trim 34 = .ok (.iload_n 2, 1) := by decide +kernel
theorem dX11_trim_35 : decode cX11_trim 35 = .ok (.invokevirtual 320, 3) := by decide +kernel
theorem dX11_trim_38 : decode cX11_trim 38 = .ok (.aload_n 0, 1) := by decide +kernel
theorem dX11_trim_39 : decode cX11_trim 39 = .ok (.getfield 49, 3) := by decide +kernel
theorem dX11_trim_42 : decode cX11_trim 42 = .ok (.getfield 324, 3) := by decide +kernel
theorem dX11_trim_45 : decode cX11_trim 45 = .ok (.ifCond .ne 6, 3) := by decide +kernel
theorem dX11_trim_48 : decode cX11_trim 48 = .ok (.bipush (-2), 2) := by decide +kernel
theorem dX11_trim_50 : decode cX11_trim 50 = .ok (.ireturn, 1) := by decide +kernel
theorem dX11_trim_51 : decode cX11_trim 51 = .ok (.aload_n 0, 1) := by decide +kernel
theorem dX11_trim_52 : decode cX11_trim 52 = .ok (.getfield 29, 3) := by decide +kernel
theorem dX11_trim_55 : decode cX11_trim 55 = .ok (.invokevirtual 207, 3) := by decide +kernel
theorem dX11_trim_58 : decode cX11_trim 58 = .ok (.iconst 0, 1) := by decide +kernel
theorem dX11_trim_59 : decode cX11_trim 59 = .ok (.istore_n 3, 1) := by decide +kernel
theorem dX11_trim_60 : decode cX11_trim 60 = .ok (.iload_n 3, 1) := by decide +kernel
theorem dX11_trim_61 : decode cX11_trim 61 = .ok (.aload_n 0, 1) := by decide +kernel
theorem dX11_trim_62 : decode cX11_trim 62 = .ok (.getfield 49, 3) := by decide +kernel
theorem dX11_trim_65 : decode cX11_trim 65 = .ok (.getfield 324, 3) := by decide +kernel
theorem dX11_trim_68 : decode cX11_trim 68 = .ok (.if_icmp .ge 25, 3) := by decide +kernel
theorem dX11_trim_71 : decode cX11_trim 71 = .ok (.aload_n 0, 1) := by decide +kernel
theorem dX11_trim_72 : decode cX11_trim 72 = .ok (.getfield 29, 3) := by decide +kernel
theorem dX11_trim_75 : decode cX11_trim 75 = .ok (.aload_n 0, 1) := by decide +kernel
theorem dX11_trim_76 : decode cX11_trim 76 = .ok (.getfield 49, 3) := by decide +kernel
theorem dX11_trim_79 : decode cX11_trim 79 = .ok (.getfield 327, 3) := by decide +kernel
theorem dX11_trim_82 : decode cX11_trim 82 = .ok (.iload_n 3, 1) := by decide +kernel
theorem dX11_trim_83 : decode cX11_trim 83 = .ok (.iaload, 1) := by decide +kernel
theorem dX11_trim_84 : decode cX11_trim 84 = .ok (.invokevirtual 210, 3) := by decide +kernel
theorem dX11_trim_87 : decode cX11_trim 87 = .ok (.iinc 3 1, 3) := by decide +kernel
theorem dX11_trim_90 : decode cX11_trim 90 = .ok (.goto (-30), 3) := by decide +kernel
theorem dX11_trim_93 : decode cX11_trim 93 = .ok (.aload_n 0, 1) := by decide +kernel
theorem dX11_trim_94 : decode cX11_trim 94 = .ok (.getfield 49, 3) := by decide +kernel
theorem dX11_trim_97 : decode cX11_trim 97 = .ok (.getfield 311, 3) := by decide +kernel
theorem dX11_trim_100 : decode cX11_trim 100 = .ok (.ireturn, 1) := by decide +kernel
theorem dX11_reach_0 : decode cX11_reach 0 = .ok (.iload_n 1, 1) := by decide +kernel
theorem dX11_reach_1 : decode cX11_reach 1 = .ok (.invokestatic 142, 3) := by decide +kernel
theorem dX11_reach_4 : decode cX11_reach 4 = .ok (.ifCond .ne 5, 3) := by decide +kernel
theorem dX11_reach_7 : decode cX11_reach 7 = .ok (.iconst (-1), 1) := by decide +kernel
theorem dX11_reach_8 : decode cX11_reach 8 = .ok (.ireturn, 1) := by decide +kernel
theorem dX11_reach_9 : decode cX11_reach 9 = .ok (.aload_n 0, 1) := by decide +kernel
theorem dX11_reach_10 : decode cX11_reach 10 = .ok (.getfield 10, 3) := by decide +kernel
theorem dX11_reach_13 : decode cX11_reach 13 = .ok (.iload_n 1, 1) := by decide +kernel
theorem dX11_reach_14 : decode cX11_reach 14 = .ok (.invokevirtual 330, 3) := by decide +kernel
theorem dX11_reach_17 : decode cX11_reach 17 = .ok (.istore_n 2, 1) := by decide +kernel
theorem dX11_reach_18 : decode cX11_reach 18 = .ok (.aload_n 0, 1) := by decide +kernel
theorem dX11_reach_19 : decode cX11_reach 19 = .ok (.getfield 29, 3) := by decide +kernel
theorem dX11_reach_22 : decode cX11_reach 22 = .ok (.invokevirtual 207, 3) := by decide +kernel
theorem dX11_reach_25 : decode cX11_reach 25 = .ok (.iload_n 2, 1) := by decide +kernel
theorem dX11_reach_26 : decode cX11_reach 26 = .ok (.ifCond .eq 39, 3) := by decide +kernel
theorem dX11_reach_29 : decode cX11_reach 29 = .ok (.aload_n 0, 1) := by decide +kernel
theorem dX11_reach_30 : decode cX11_reach 30 = .ok (.getfield 29, 3) := by decide +kernel
theorem dX11_reach_33 : decode cX11_reach 33 = .ok (.aload_n 0, 1) := by decide +kernel
theorem dX11_reach_34 : decode cX11_reach 34 = .ok (.getfield 10, 3) := by decide +kernel
theorem dX11_reach_37 : decode cX11_reach 37 = .ok (.getfield 333, 3) := by decide +kernel
theorem dX11_reach_40 : decode cX11_reach 40 = .ok (.getfield 281, 3) := by decide +kernel
theorem dX11_reach_43 : decode cX11_reach 43 = .ok (.l2i, 1) := by decide +kernel
theorem dX11_reach_44 : decode cX11_reach 44 = .ok (.invokevirtual 210, 3) := by decide +kernel
theorem dX11_reach_47 : decode cX11_reach 47 = .ok (.aload_n 0, 1) := by decide +kernel
theorem dX11_reach_48 : decode cX11_reach 48 = .ok (.getfield 29, 3) := by decide +kernel
theorem dX11_reach_51 : decode cX11_reach 51 = .ok (.aload_n 0, 1) := by decide +kernel
theorem dX11_reach_52 : decode cX11_reach 52 = .ok (.getfield 10, 3) := by decide +kernel
theorem dX11_reach_55 : decode cX11_reach 55 = .ok (.getfield 333, 3) := by decide +kernel
theorem dX11_reach_58 : decode cX11_reach 58 = .ok (.getfield 285, 3) := by decide +kernel
theorem dX11_reach_61 : decode cX11_reach 61 = .ok (.l2i, 1) := by decide +kernel
theorem dX11_reach_62 : decode cX11_reach 62 = .ok (.invokevirtual 210, 3) := by decide +kernel
theorem dX11_reach_65 : decode cX11_reach 65 = .ok (.iload_n 2, 1) := by decide +kernel
theorem dX11_reach_66 : decode cX11_reach 66 = .ok (.ifCond .eq 7, 3) := by decide +kernel
theorem dX11_reach_69 : decode cX11_reach 69 = .ok (.iconst 1, 1) := by decide +kernel
theorem dX11_reach_70 : decode cX11_reach 70 = .ok (.goto 4, 3) := by decide +kernel
theorem dX11_reach_73 : decode cX11_reach 73 = .ok (.iconst 0, 1) := by decide +kernel
theorem dX11_reach_74 : decode cX11_reach 74 = .ok (.ireturn, 1) := by decide +kernel
theorem dX11_shot_0 : decode cX11_shot 0 = .ok (.aload_n 0, 1) := by decide +kernel
theorem dX11_shot_1 : decode cX11_shot 1 = .ok (.getfield 20, 3) := by decide +kernel
theorem dX11_shot_4 : decode cX11_shot 4 = .ok (.iload_n 1, 1) := by decide +kernel
theorem dX11_shot_5 : decode cX11_shot 5 = .ok (.iconst 3, 1) := by decide +kernel
theorem dX11_shot_6 : decode cX11_shot 6 = .ok (.invokevirtual 295, 3) := by decide +kernel
theorem dX11_shot_9 : decode cX11_shot 9 = .ok (.ifCond .eq 41, 3) := by decide +kernel
theorem dX11_shot_12 : decode cX11_shot 12 = .ok (.aload_n 0, 1) := by decide +kernel
theorem dX11_shot_13 : decode cX11_shot 13 = .ok (.getfield 20, 3) := by decide +kernel
theorem dX11_shot_16 : decode cX11_shot 16 = .ok (.iload 5, 2) := by decide +kernel
theorem dX11_shot_18 : decode cX11_shot 18 = .ok (.iconst 0, 1) := by decide +kernel
theorem dX11_shot_19 : decode cX11_shot 19 = .ok (.invokevirtual 295, 3) := by decide +kernel
theorem dX11_shot_22 : decode cX11_shot 22 = .ok (.ifCond .eq 28, 3) := by decide +kernel
theorem dX11_shot_25 : decode cX11_shot 25 = .ok (.iload_n 3, 1) := by decide +kernel
theorem dX11_shot_26 : decode cX11_shot 26 = .ok (.iconst 0, 1) := by decide +kernel
theorem dX11_shot_27 : decode cX11_shot 27 = .ok (.bipush 60, 2) := by decide +kernel
theorem dX11_shot_29 : decode cX11_shot 29 = .ok (.invokestatic 81, 3) := by decide +kernel
theorem dX11_shot_32 : decode cX11_shot 32 = .ok (.ifCond .eq 18, 3) := by decide +kernel
theorem dX11_shot_35 : decode cX11_shot 35 = .ok (.iload 4, 2) := by decide +kernel
theorem dX11_shot_37 : decode cX11_shot 37 = .ok (.iconst 1, 1) := by decide +kernel
theorem dX11_shot_38 : decode cX11_shot 38 = .ok (.bipush 99, 2) := by decide +kernel
theorem dX11_shot_40 : decode cX11_shot 40 = .ok (.invokestatic 81, 3) := by decide +kernel
theorem dX11_shot_43 : decode cX11_shot 43 = .ok (.ifCond .eq 7, 3) := by decide +kernel
theorem dX11_shot_46 : decode cX11_shot 46 = .ok (.iconst 1, 1) := by decide +kernel
theorem dX11_shot_47 : decode cX11_shot 47 = .ok (.goto 4, 3) := by decide +kernel
theorem dX11_shot_50 : decode cX11_shot 50 = .ok (.iconst 0, 1) := by decide +kernel
theorem dX11_shot_51 : decode cX11_shot 51 = .ok (.istore 6, 2) := by decide +kernel
theorem dX11_shot_53 : decode cX11_shot 53 = .ok (.iload 6, 2) := by decide +kernel
theorem dX11_shot_55 : decode cX11_shot 55 = .ok (.ifCond .eq 20, 3) := by decide +kernel
theorem dX11_shot_58 : decode cX11_shot 58 = .ok (.iload_n 2, 1) := by decide +kernel
theorem dX11_shot_59 : decode cX11_shot 59 = .ok (.iconst 1, 1) := by decide +kernel
theorem dX11_shot_60 : decode cX11_shot 60 = .ok (.aload_n 0, 1) := by decide +kernel
theorem dX11_shot_61 : decode cX11_shot 61 = .ok (.getfield 20, 3) := by decide +kernel
theorem dX11_shot_64 : decode cX11_shot 64 = .ok (.getfield 98, 3) := by decide +kernel
theorem dX11_shot_67 : decode cX11_shot 67 = .ok (.iload_n 1, 1) := by decide +kernel
theorem dX11_shot_68 : decode cX11_shot 68 = .ok (.iaload, 1) := by decide +kernel
theorem dX11_shot_69 : decode cX11_shot 69 = .ok (.invokestatic 81, 3) := by decide +kernel
theorem dX11_shot_72 : decode cX11_shot 72 = .ok (.ifCond .ne 5, 3) := by decide +kernel
theorem dX11_shot_75 : decode cX11_shot 75 = .ok (.iconst (-1), 1) := by decide +kernel
theorem dX11_shot_76 : decode cX11_shot 76 = .ok (.ireturn, 1) := by decide +kernel
theorem dX11_shot_77 : decode cX11_shot 77 = .ok (.aload_n 0, 1) := by decide +kernel
theorem dX11_shot_78 : decode cX11_shot 78 = .ok (.getfield 20, 3) := by decide +kernel
theorem dX11_shot_81 : decode cX11_shot 81 = .ok (.iload 5, 2) := by decide +kernel
theorem dX11_shot_83 : decode cX11_shot 83 = .ok (.invokevirtual 268, 3) := by decide +kernel
theorem dX11_shot_86 : decode cX11_shot 86 = .ok (.iload_n 2, 1) := by decide +kernel
theorem dX11_shot_87 : decode cX11_shot 87 = .ok (.if_icmp .ge 6, 3) := by decide +kernel
theorem dX11_shot_90 : decode cX11_shot 90 = .ok (.bipush (-2), 2) := by decide +kernel
theorem dX11_shot_92 : decode cX11_shot 92 = .ok (.ireturn, 1) := by decide +kernel
theorem dX11_shot_93 : decode cX11_shot 93 = .ok (.iconst 0, 1) := by decide +kernel
theorem dX11_shot_94 : decode cX11_shot 94 = .ok (.istore 7, 2) := by decide +kernel
theorem dX11_shot_96 : decode cX11_shot 96 = .ok (.iconst 0, 1) := by decide +kernel
theorem dX11_shot_97 : decode cX11_shot 97 = .ok (.istore 8, 2) := by decide +kernel
theorem dX11_shot_99 : decode cX11_shot 99 = .ok (.iconst 0, 1) := by decide +kernel
theorem dX11_shot_100 : decode cX11_shot 100 = .ok (.istore 9, 2) := by decide +kernel
theorem dX11_shot_102 : decode cX11_shot 102 = .ok (.iconst 0, 1) := by decide +kernel
theorem dX11_shot_103 : decode cX11_shot 103 = .ok (.istore 10, 2) := by decide +kernel
theorem dX11_shot_105 : decode cX11_shot 105 = .ok (.iload 7, 2) := by decide +kernel
theorem dX11_shot_107 : decode cX11_shot 107 = .ok (.iload_n 2, 1) := by decide +kernel
theorem dX11_shot_108 : decode cX11_shot 108 = .ok (.if_icmp .ge 77, 3) := by decide +kernel
theorem dX11_shot_111 : decode cX11_shot 111 = .ok (.iload 8, 2) := by decide +kernel
theorem dX11_shot_113 : decode cX11_shot 113 = .ok (.iload_n 3, 1) := by decide +kernel
theorem dX11_shot_114 : decode cX11_shot 114 = .ok (.iload_n 2, 1) := by decide +kernel
theorem dX11_shot_115 : decode cX11_shot 115 = .ok (.iadd, 1) := by decide +kernel
theorem dX11_shot_116 : decode cX11_shot 116 = .ok (.if_icmp .gt 69, 3) := by decide +kernel
theorem dX11_shot_119 : decode cX11_shot 119 = .ok (.iload 9, 2) := by decide +kernel
theorem dX11_shot_121 : decode cX11_shot 121 = .ok (.iload_n 2, 1) := by decide +kernel
theorem dX11_shot_122 : decode cX11_shot 122 = .ok (.iload 7, 2) := by decide +kernel
theorem dX11_shot_124 : decode cX11_shot 124 = .ok (.isub, 1) := by decide +kernel
theorem dX11_shot_125 : decode cX11_shot 125 = .ok (.iadd, 1) := by decide +kernel
theorem dX11_shot_126 : decode cX11_shot 126 = .ok (.istore 9, 2) := by decide +kernel
theorem dX11_shot_128 : decode cX11_shot 128 = .ok (.iload 10, 2) := by decide +kernel
theorem dX11_shot_130 : decode cX11_shot 130 = .ok (.aload_n 0, 1) := by decide +kernel
theorem dX11_shot_131 : decode cX11_shot 131 = .ok (.getfield 20, 3) := by decide +kernel
theorem dX11_shot_134 : decode cX11_shot 134 = .ok (.getfield 164, 3) := by decide +kernel
theorem dX11_shot_137 : decode cX11_shot 137 = .ok (.iload 5, 2) := by decide +kernel
theorem dX11_shot_139 : decode cX11_shot 139 = .ok (.iaload, 1) := by decide +kernel
theorem dX11_shot_140 : decode cX11_shot 140 = .ok (.iload 7, 2) := by decide +kernel
theorem dX11_shot_142 : decode cX11_shot 142 = .ok (.imul, 1) := by decide +kernel
theorem dX11_shot_143 : decode cX11_shot 143 = .ok (.aload_n 0, 1) := by decide +kernel
theorem dX11_shot_144 : decode cX11_shot 144 = .ok (.getfield 20, 3) := by decide +kernel
theorem dX11_shot_147 : decode cX11_shot 147 = .ok (.getfield 164, 3) := by decide +kernel
theorem dX11_shot_150 : decode cX11_shot 150 = .ok (.iload_n 1, 1) := by decide +kernel
theorem dX11_shot_151 : decode cX11_shot 151 = .ok (.iaload, 1) := by decide +kernel
theorem dX11_shot_152 : decode cX11_shot 152 = .ok (.iload_n 2, 1) := by decide +kernel
theorem dX11_shot_153 : decode cX11_shot 153 = .ok (.imul, 1) := by decide +kernel
theorem dX11_shot_154 : decode cX11_shot 154 = .ok (.isub, 1) := by decide +kernel
theorem dX11_shot_155 : decode cX11_shot 155 = .ok (.iadd, 1) := by decide +kernel
theorem dX11_shot_156 : decode cX11_shot 156 = .ok (.istore 10, 2) := by decide +kernel
theorem dX11_shot_158 : decode cX11_shot 158 = .ok (.iinc 8 1, 3) := by decide +kernel
theorem dX11_shot_161 : decode cX11_shot 161 = .ok (.iload 8, 2) := by decide +kernel
theorem dX11_shot_163 : decode cX11_shot 163 = .ok (.iload_n 3, 1) := by decide +kernel
theorem dX11_shot_164 : decode cX11_shot 164 = .ok (.if_icmp .le 15, 3) := by decide +kernel
theorem dX11_shot_167 : decode cX11_shot 167 = .ok (.iload_n 2, 1) := by decide +kernel
theorem dX11_shot_168 : decode cX11_shot 168 = .ok (.iload 7, 2) := by decide +kernel
theorem dX11_shot_170 : decode cX11_shot 170 = .ok (.iload 4, 2) := by decide +kernel
theorem dX11_shot_172 : decode cX11_shot 172 = .ok (.iadd, 1) := by decide +kernel
theorem dX11_shot_173 : decode cX11_shot 173 = .ok (.invokestatic 108, 3) := by decide +kernel
theorem dX11_shot_176 : decode cX11_shot 176 = .ok (.goto 4, 3) := by decide +kernel
theorem dX11_shot_179 : decode cX11_shot 179 = .ok (.iconst 0, 1) := by decide +kernel
theorem dX11_shot_180 : decode cX11_shot 180 = .ok (.istore 7, 2) := by decide +kernel
theorem dX11_shot_182 : decode cX11_shot 182 = .ok (.goto (-77), 3) := by decide +kernel
theorem dX11_shot_185 : decode cX11_shot 185 = .ok (.aload_n 0, 1) := by decide +kernel
theorem dX11_shot_186 : decode cX11_shot 186 = .ok (.getfield 20, 3) := by decide +kernel
theorem dX11_shot_189 : decode cX11_shot 189 = .ok (.getfield 98, 3) := by decide +kernel
theorem dX11_shot_192 : decode cX11_shot 192 = .ok (.iload_n 1, 1) := by decide +kernel
theorem dX11_shot_193 : decode cX11_shot 193 = .ok (.dup2, 1) := by decide +kernel
theorem dX11_shot_194 : decode cX11_shot 194 = .ok (.iaload, 1) := by decide +kernel
theorem dX11_shot_195 : decode cX11_shot 195 = .ok (.iload_n 2, 1) := by decide +kernel
theorem dX11_shot_196 : decode cX11_shot 196 = .ok (.isub, 1) := by decide +kernel
theorem dX11_shot_197 : decode cX11_shot 197 = .ok (.iastore, 1) := by decide +kernel
theorem dX11_shot_198 : decode cX11_shot 198 = .ok (.aload_n 0, 1) := by decide +kernel
theorem dX11_shot_199 : decode cX11_shot 199 = .ok (.getfield 20, 3) := by decide +kernel
theorem dX11_shot_202 : decode cX11_shot 202 = .ok (.getfield 98, 3) := by decide +kernel
theorem dX11_shot_205 : decode cX11_shot 205 = .ok (.iload 5, 2) := by decide +kernel
theorem dX11_shot_207 : decode cX11_shot 207 = .ok (.dup2, 1) := by decide +kernel
theorem dX11_shot_208 : decode cX11_shot 208 = .ok (.iaload, 1) := by decide +kernel
theorem dX11_shot_209 : decode cX11_shot 209 = .ok (.iload_n 2, 1) := by decide +kernel
theorem dX11_shot_210 : decode cX11_shot 210 = .ok (.iadd, 1) := by decide +kernel
theorem dX11_shot_211 : decode cX11_shot 211 = .ok (.iastore, 1) := by decide +kernel
theorem dX11_shot_212 : decode cX11_shot 212 = .ok (.aload_n 0, 1) := by decide +kernel
theorem dX11_shot_213 : decode cX11_shot 213 = .ok (.getfield 29, 3) := by decide +kernel
theorem dX11_shot_216 : decode cX11_shot 216 = .ok (.invokevirtual 207, 3) := by decide +kernel
theorem dX11_shot_219 : decode cX11_shot 219 = .ok (.aload_n 0, 1) := by decide +kernel
theorem dX11_shot_220 : decode cX11_shot 220 = .ok (.getfield 29, 3) := by decide +kernel
theorem dX11_shot_223 : decode cX11_shot 223 = .ok (.iload 9, 2) := by decide +kernel
theorem dX11_shot_225 : decode cX11_shot 225 = .ok (.invokevirtual 210, 3) := by decide +kernel
theorem dX11_shot_228 : decode cX11_shot 228 = .ok (.aload_n 0, 1) := by decide +kernel
theorem dX11_shot_229 : decode cX11_shot 229 = .ok (.getfield 29, 3) := by decide +kernel
theorem dX11_shot_232 : decode cX11_shot 232 = .ok (.iload 10, 2) := by decide +kernel
theorem dX11_shot_234 : decode cX11_shot 234 = .ok (.invokevirtual 210, 3) := by decide +kernel
theorem dX11_shot_237 : decode cX11_shot 237 = .ok (.iload 8, 2) := by decide +kernel
theorem dX11_shot_239 : decode cX11_shot 239 = .ok (.ireturn, 1) := by decide +kernel
theorem dX11_dive_0 : decode cX11_dive 0 = .ok (.iload_n 1, 1) := by decide +kernel
theorem dX11_dive_1 : decode cX11_dive 1 = .ok (.invokestatic 142, 3) := by decide +kernel
theorem dX11_dive_4 : decode cX11_dive 4 = .ok (.ifCond .eq 21, 3) := by decide +kernel
theorem dX11_dive_7 : decode cX11_dive 7 = .ok (.iload_n 2, 1) := by decide +kernel
theorem dX11_dive_8 : decode cX11_dive 8 = .ok (.invokestatic 142, 3) := by decide +kernel
theorem dX11_dive_11 : decode cX11_dive 11 = .ok (.ifCond .eq 14, 3) := by decide +kernel
theorem dX11_dive_14 : decode cX11_dive 14 = .ok (.iload_n 3, 1) := by decide +kernel
theorem dX11_dive_15 : decode cX11_dive 15 = .ok (.iconst 0, 1) := by decide +kernel
theorem dX11_dive_16 : decode cX11_dive 16 = .ok (.sipush 600, 3) := by decide +kernel
theorem dX11_dive_19 : decode cX11_dive 19 = .ok (.invokestatic 81, 3) := by decide +kernel
theorem dX11_dive_22 : decode cX11_dive 22 = .ok (.ifCond .ne 5, 3) := by decide +kernel
theorem dX11_dive_25 : decode cX11_dive 25 = .ok (.iconst (-1), 1) := by decide +kernel
theorem dX11_dive_26 : decode cX11_dive 26 = .ok (.ireturn, 1) := by decide +kernel
theorem dX11_dive_27 : decode cX11_dive 27 = .ok (.aload_n 0, 1) := by decide +kernel
theorem dX11_dive_28 : decode cX11_dive 28 = .ok (.getfield 56, 3) := by decide +kernel
theorem dX11_dive_31 : decode cX11_dive 31 = .ok (.iload_n 1, 1) := by decide +kernel
theorem dX11_dive_32 : decode cX11_dive 32 = .ok (.aload_n 0, 1) := by decide +kernel
theorem dX11_dive_33 : decode cX11_dive 33 = .ok (.getfield 10, 3) := by decide +kernel
theorem dX11_dive_36 : decode cX11_dive 36 = .ok (.invokevirtual 180, 3) := by decide +kernel
theorem dX11_dive_39 : decode cX11_dive 39 = .ok (.invokestatic 336, 3) := by decide +kernel
theorem dX11_dive_42 : decode cX11_dive 42 = .ok (.invokevirtual 339, 3) := by decide +kernel
theorem dX11_dive_45 : decode cX11_dive 45 = .ok (.iload_n 1, 1) := by decide +kernel
theorem dX11_dive_46 : decode cX11_dive 46 = .ok (.iload_n 2, 1) := by decide +kernel
theorem dX11_dive_47 : decode cX11_dive 47 = .ok (.if_icmp .lt 7, 3) := by decide +kernel
theorem dX11_dive_50 : decode cX11_dive 50 = .ok (.iconst 0, 1) := by decide +kernel
theorem dX11_dive_51 : decode cX11_dive 51 = .ok (.goto 4, 3) := by decide +kernel
theorem dX11_dive_54 : decode cX11_dive 54 = .ok (.iconst (-1), 1) := by decide +kernel
theorem dX11_dive_55 : decode cX11_dive 55 = .ok (.istore 4, 2) := by decide +kernel
theorem dX11_dive_57 : decode cX11_dive 57 = .ok (.iconst 1, 1) := by decide +kernel
theorem dX11_dive_58 : decode cX11_dive 58 = .ok (.istore 5, 2) := by decide +kernel
theorem dX11_dive_60 : decode cX11_dive 60 = .ok (.iload 5, 2) := by decide +kernel
theorem dX11_dive_62 : decode cX11_dive 62 = .ok (.iload_n 3, 1) := by decide +kernel
theorem dX11_dive_63 : decode cX11_dive 63 = .ok (.if_icmp .gt 40, 3) := by decide +kernel
theorem dX11_dive_66 : decode cX11_dive 66 = .ok (.aload_n 0, 1) := by decide +kernel
theorem dX11_dive_67 : decode cX11_dive 67 = .ok (.getfield 56, 3) := by decide +kernel
theorem dX11_dive_70 : decode cX11_dive 70 = .ok (.invokevirtual 342, 3) := by decide +kernel
theorem dX11_dive_73 : decode cX11_dive 73 = .ok (.iload 4, 2) := by decide +kernel
theorem dX11_dive_75 : decode cX11_dive 75 = .ok (.iconst (-1), 1) := by decide +kernel
theorem dX11_dive_76 : decode cX11_dive 76 = .ok (.if_icmp .ne 21, 3) := by decide +kernel
theorem dX11_dive_79 : decode cX11_dive 79 = .ok (.aload_n 0, 1) := by decide +kernel
theorem dX11_dive_80 : decode cX11_dive 80 = .ok (.getfield 56, 3) := by decide +kernel
theorem dX11_dive_83 : decode cX11_dive 83 = .ok (.getfield 345, 3) := by decide +kernel
theorem dX11_dive_86 : decode cX11_dive 86 = .ok (.iload_n 2, 1) := by decide +kernel
theorem dX11_dive_87 : decode cX11_dive 87 = .ok (.bipush 10, 2) := by decide +kernel
theorem dX11_dive_89 : decode cX11_dive 89 = .ok (.imul, 1) := by decide +kernel
theorem dX11_dive_90 : decode cX11_dive 90 = .ok (.if_icmp .lt 7, 3) := by decide +kernel
theorem dX11_dive_93 : decode cX11_dive 93 = .ok (.iload 5, 2) := by decide +kernel
theorem dX11_dive_95 : decode cX11_dive 95 = .ok (.istore 4, 2) := by decide +kernel
theorem dX11_dive_97 : decode cX11_dive 97 = .ok (.iinc 5 1, 3) := by decide +kernel
theorem dX11_dive_100 : decode cX11_dive 100 = .ok (.goto (-40), 3) := by decide +kernel
theorem dX11_dive_103 : decode cX11_dive 103 = .ok (.aload_n 0, 1) := by decide +kernel
theorem dX11_dive_104 : decode cX11_dive 104 = .ok (.getfield 29, 3) := by decide +kernel
theorem dX11_dive_107 : decode cX11_dive 107 = .ok (.invokevirtual 207, 3) := by decide +kernel
theorem dX11_dive_110 : decode cX11_dive 110 = .ok (.aload_n 0, 1) := by decide +kernel
theorem dX11_dive_111 : decode cX11_dive 111 = .ok (.getfield 29, 3) := by decide +kernel
theorem dX11_dive_114 : decode cX11_dive 114 = .ok (.aload_n 0, 1) := by decide +kernel
theorem dX11_dive_115 : decode cX11_dive 115 = .ok (.getfield 56, 3) := by decide +kernel
theorem dX11_dive_118 : decode cX11_dive 118 = .ok (.getfield 348, 3) := by decide +kernel
theorem dX11_dive_121 : decode cX11_dive 121 = .ok (.invokevirtual 210, 3) := by decide +kernel
theorem dX11_dive_124 : decode cX11_dive 124 = .ok (.aload_n 0, 1) := by decide +kernel
theorem dX11_dive_125 : decode cX11_dive 125 = .ok (.getfield 29, 3) := by decide +kernel
theorem dX11_dive_128 : decode cX11_dive 128 = .ok (.iload 4, 2) := by decide +kernel
theorem dX11_dive_130 : decode cX11_dive 130 = .ok (.invokevirtual 210, 3) := by decide +kernel
theorem dX11_dive_133 : decode cX11_dive 133 = .ok (.aload_n 0, 1) := by decide +kernel
theorem dX11_dive_134 : decode cX11_dive 134 = .ok (.getfield 56, 3) := by decide +kernel
theorem dX11_dive_137 : decode cX11_dive 137 = .ok (.getfield 345, 3) := by decide +kernel
theorem dX11_dive_140 : decode cX11_dive 140 = .ok (.ireturn, 1) := by decide +kernel
theorem dX11_forward_0 : decode cX11_forward 0 = .ok (.aload_n 0, 1) := by decide +kernel
theorem dX11_forward_1 : decode cX11_forward 1 = .ok (.getfield 20, 3) := by decide +kernel
theorem dX11_forward_4 : decode cX11_forward 4 = .ok (.iload_n 1, 1) := by decide +kernel
theorem dX11_forward_5 : decode cX11_forward 5 = .ok (.iconst 2, 1) := by decide +kernel
theorem dX11_forward_6 : decode cX11_forward 6 = .ok (.invokevirtual 295, 3) := by decide +kernel
theorem dX11_forward_9 : decode cX11_forward 9 = .ok (.ifCond .eq 24, 3) := by decide +kernel
theorem dX11_forward_12 : decode cX11_forward 12 = .ok (.aload_n 0, 1) := by decide +kernel
theorem dX11_forward_13 : decode cX11_forward 13 = .ok (.getfield 20, 3) := by decide +kernel
theorem dX11_forward_16 : decode cX11_forward 16 = .ok (.iload_n 2, 1) := by decide +kernel
theorem dX11_forward_17 : decode cX11_forward 17 = .ok (.iconst 2, 1) := by decide +kernel
theorem dX11_forward_18 : decode cX11_forward 18 = .ok (.invokevirtual 295, 3) := by decide +kernel
theorem dX11_forward_21 : decode cX11_forward 21 = .ok (.ifCond .eq 12, 3) := by decide +kernel
theorem dX11_forward_24 : decode cX11_forward 24 = .ok (.iload_n 1, 1) := by decide +kernel
theorem dX11_forward_25 : decode cX11_forward 25 = .ok (.iload_n 2, 1) := by decide +kernel
theorem dX11_forward_26 : decode cX11_forward 26 = .ok (.if_icmp .eq 7, 3) := by decide +kernel
theorem dX11_forward_29 : decode cX11_forward 29 = .ok (.iconst 1, 1) := by decide +kernel
theorem dX11_forward_30 : decode cX11_forward 30 = .ok (.goto 4, 3) := by decide +kernel
theorem dX11_forward_33 : decode cX11_forward 33 = .ok (.iconst 0, 1) := by decide +kernel
theorem dX11_forward_34 : decode cX11_forward 34 = .ok (.istore 6, 2) := by decide +kernel
theorem dX11_forward_36 : decode cX11_forward 36 = .ok (.iload 6, 2) := by decide +kernel
theorem dX11_forward_38 : decode cX11_forward 38 = .ok (.ifCond .eq 30, 3) := by decide +kernel
theorem dX11_forward_41 : decode cX11_forward 41 = .ok (.iload_n 3, 1) := by decide +kernel
theorem dX11_forward_42 : decode cX11_forward 42 = .ok (.invokestatic 142, 3) := by decide +kernel
theorem dX11_forward_45 : decode cX11_forward 45 = .ok (.ifCond .eq 23, 3) := by decide +kernel
theorem dX11_forward_48 : decode cX11_forward 48 = .ok (.iload 4, 2) := by decide +kernel
theorem dX11_forward_50 : decode cX11_forward 50 = .ok (.invokestatic 142, 3) := by decide +kernel
theorem dX11_forward_53 : decode cX11_forward 53 = .ok (.ifCond .eq 15, 3) := by decide +kernel
theorem dX11_forward_56 : decode cX11_forward 56 = .ok (.iload 5, 2) := by decide +kernel
theorem dX11_forward_58 : decode cX11_forward 58 = .ok (.iconst 0, 1) := by decide +kernel
theorem dX11_forward_59 : decode cX11_forward 59 = .ok (.sipush 600, 3) := by decide +kernel
theorem dX11_forward_62 : decode cX11_forward 62 = .ok (.invokestatic 81, 3) := by decide +kernel
theorem dX11_forward_65 : decode cX11_forward 65 = .ok (.ifCond .ne 5, 3) := by decide +kernel
theorem dX11_forward_68 : decode cX11_forward 68 = .ok (.iconst (-1), 1) := by decide +kernel
theorem dX11_forward_69 : decode cX11_forward 69 = .ok (.ireturn, 1) := by decide +kernel
theorem dX11_forward_70 : decode cX11_forward 70 = .ok (.aload_n 0, 1) := by decide +kernel
theorem dX11_forward_71 : decode cX11_forward 71 = .ok (.getfield 20, 3) := by decide +kernel
theorem dX11_forward_74 : decode cX11_forward 74 = .ok (.getfield 98, 3) := by decide +kernel
theorem dX11_forward_77 : decode cX11_forward 77 = .ok (.iload_n 1, 1) := by decide +kernel
theorem dX11_forward_78 : decode cX11_forward 78 = .ok (.iaload, 1) := by decide +kernel
theorem dX11_forward_79 : decode cX11_forward 79 = .ok (.aload_n 0, 1) := by decide +kernel
theorem dX11_forward_80 : decode cX11_forward 80 = .ok (.getfield 20, 3) := by decide +kernel
theorem dX11_forward_83 : decode cX11_forward 83 = .ok (.iload_n 2, 1) := by decide +kernel
theorem dX11_forward_84 : decode cX11_forward 84 = .ok (.invokevirtual 268, 3) := by decide +kernel
theorem dX11_forward_87 : decode cX11_forward 87 = .ok (.invokestatic 108, 3) := by decide +kernel
theorem dX11_forward_90 : decode cX11_forward 90 = .ok (.istore 7, 2) := by decide +kernel
theorem dX11_forward_92 : decode cX11_forward 92 = .ok (.aload_n 0, 1) := by decide +kernel
theorem dX11_forward_93 : decode cX11_forward 93 = .ok (.getfield 10, 3) := by decide +kernel
theorem dX11_forward_96 : decode cX11_forward 96 = .ok (.invokevirtual 180, 3) := by decide +kernel
theorem dX11_forward_99 : decode cX11_forward 99 = .ok (.istore 8, 2) := by decide +kernel
theorem dX11_forward_101 : decode cX11_forward 101 = .ok (.aload_n 0, 1) := by decide +kernel
theorem dX11_forward_102 : decode cX11_forward 102 = .ok (.getfield 20, 3) := by decide +kernel
theorem dX11_forward_105 : decode cX11_forward 105 = .ok (.getfield 164, 3) := by decide +kernel
theorem dX11_forward_108 : decode cX11_forward 108 = .ok (.iload_n 2, 1) := by decide +kernel
theorem dX11_forward_109 : decode cX11_forward 109 = .ok (.iaload, 1) := by decide +kernel
theorem dX11_forward_110 : decode cX11_forward 110 = .ok (.aload_n 0, 1) := by decide +kernel
theorem dX11_forward_111 : decode cX11_forward 111 = .ok (.getfield 20, 3) := by decide +kernel
theorem dX11_forward_114 : decode cX11_forward 114 = .ok (.getfield 164, 3) := by decide +kernel
theorem dX11_forward_117 : decode cX11_forward 117 = .ok (.iload_n 1, 1) := by decide +kernel
theorem dX11_forward_118 : decode cX11_forward 118 = .ok (.iaload, 1) := by decide +kernel
theorem dX11_forward_119 : decode cX11_forward 119 = .ok (.isub, 1) := by decide +kernel
theorem dX11_forward_120 : decode cX11_forward 120 = .ok (.istore 9, 2) := by decide +kernel
theorem dX11_forward_122 : decode cX11_forward 122 = .ok (.iload 8, 2) := by decide +kernel
theorem dX11_forward_124 : decode cX11_forward 124 = .ok (.invokestatic 336, 3) := by decide +kernel
theorem dX11_forward_127 : decode cX11_forward 127 = .ok (.iconst 1, 1) := by decide +kernel
theorem dX11_forward_128 : decode cX11_forward 128 = .ok (.iadd, 1) := by decide +kernel
theorem dX11_forward_129 : decode cX11_forward 129 = .ok (.istore 10, 2) := by decide +kernel
theorem dX11_forward_131 : decode cX11_forward 131 = .ok (.iconst 0, 1) := by decide +kernel
theorem dX11_forward_132 : decode cX11_forward 132 = .ok (.istore 11, 2) := by decide +kernel
theorem dX11_forward_134 : decode cX11_forward 134 = .ok (.iload 11, 2) := by decide +kernel
theorem dX11_forward_136 : decode cX11_forward 136 = .ok (.iload 7, 2) := by decide +kernel
theorem dX11_forward_138 : decode cX11_forward 138 = .ok (.if_icmp .gt 81, 3) := by decide +kernel
theorem dX11_forward_141 : decode cX11_forward 141 = .ok (.iload 8, 2) := by decide +kernel
theorem dX11_forward_143 : decode cX11_forward 143 = .ok (.iload 11, 2) := by decide +kernel
theorem dX11_forward_145 : decode cX11_forward 145 = .ok (.iload 9, 2) := by decide +kernel
theorem dX11_forward_147 : decode cX11_forward 147 = .ok (.imul, 1) := by decide +kernel
theorem dX11_forward_148 : decode cX11_forward 148 = .ok (.iadd, 1) := by decide +kernel
theorem dX11_forward_149 : decode cX11_forward 149 = .ok (.invokestatic 336, 3) := by decide +kernel
theorem dX11_forward_152 : decode cX11_forward 152 = .ok (.istore 12, 2) := by decide +kernel
theorem dX11_forward_154 : decode cX11_forward 154 = .ok (.iload 12, 2) := by decide +kernel
theorem dX11_forward_156 : decode cX11_forward 156 = .ok (.iload 10, 2) := by decide +kernel
theorem dX11_forward_158 : decode cX11_forward 158 = .ok (.if_icmp .eq 55, 3) := by decide +kernel
theorem dX11_forward_161 : decode cX11_forward 161 = .ok (.iload 12, 2) := by decide +kernel
theorem dX11_forward_163 : decode cX11_forward 163 = .ok (.istore 10, 2) := by decide +kernel
theorem dX11_forward_165 : decode cX11_forward 165 = .ok (.aload_n 0, 1) := by decide +kernel
theorem dX11_forward_166 : decode cX11_forward 166 = .ok (.getfield 56, 3) := by decide +kernel
theorem dX11_forward_169 : decode cX11_forward 169 = .ok (.iload_n 3, 1) := by decide +kernel
theorem dX11_forward_170 : decode cX11_forward 170 = .ok (.iload 12, 2) := by decide +kernel
theorem dX11_forward_172 : decode cX11_forward 172 = .ok (.invokevirtual 339, 3) := by decide +kernel
theorem dX11_forward_175 : decode cX11_forward 175 = .ok (.aload_n 0, 1) := by decide +kernel
theorem dX11_forward_176 : decode cX11_forward 176 = .ok (.getfield 56, 3) := by decide +kernel
theorem dX11_forward_179 : decode cX11_forward 179 = .ok (.iload 4, 2) := by decide +kernel
theorem dX11_forward_181 : decode cX11_forward 181 = .ok (.iload 5, 2) := by decide +kernel
theorem dX11_forward_183 : decode cX11_forward 183 = .ok (.invokevirtual 351, 3) := by decide +kernel
theorem dX11_forward_186 : decode cX11_forward 186 = .ok (.istore 13, 2) := by decide +kernel
theorem dX11_forward_188 : decode cX11_forward 188 = .ok (.iload 13, 2) := by decide +kernel
theorem dX11_forward_190 : decode cX11_forward 190 = .ok (.iconst (-1), 1) := by decide +kernel
theorem dX11_forward_191 : decode cX11_forward 191 = .ok (.if_icmp .eq 22, 3) := by decide +kernel
theorem dX11_forward_194 : decode cX11_forward 194 = .ok (.aload_n 0, 1) := by decide +kernel
theorem dX11_forward_195 : decode cX11_forward 195 = .ok (.getfield 29, 3) := by decide +kernel
theorem dX11_forward_198 : decode cX11_forward 198 = .ok (.invokevirtual 207, 3) := by decide +kernel
theorem dX11_forward_201 : decode cX11_forward 201 = .ok (.aload_n 0, 1) := by decide +kernel
theorem dX11_forward_202 : decode cX11_forward 202 = .ok (.getfield 29, 3) := by decide +kernel
theorem dX11_forward_205 : decode cX11_forward 205 = .ok (.iload 13, 2) := by decide +kernel
theorem dX11_forward_207 : decode cX11_forward 207 = .ok (.invokevirtual 210, 3) := by decide +kernel
theorem dX11_forward_210 : decode cX11_forward 210 = .ok (.iload 11, 2) := by decide +kernel
theorem dX11_forward_212 : decode cX11_forward 212 = .ok (.ireturn, 1) := by decide +kernel
theorem dX11_forward_213 : decode cX11_forward 213 = .ok (.iinc 11 1, 3) := by decide +kernel
theorem dX11_forward_216 : decode cX11_forward 216 = .ok (.goto (-82), 3) := by decide +kernel
theorem dX11_forward_219 : decode cX11_forward 219 = .ok (.bipush (-2), 2) := by decide +kernel
theorem dX11_forward_221 : decode cX11_forward 221 = .ok (.ireturn, 1) := by decide +kernel
theorem dX11_carry_0 : decode cX11_carry 0 = .ok (.aload_n 0, 1) := by decide +kernel
theorem dX11_carry_1 : decode cX11_carry 1 = .ok (.getfield 20, 3) := by decide +kernel
theorem dX11_carry_4 : decode cX11_carry 4 = .ok (.iload_n 1, 1) := by decide +kernel
theorem dX11_carry_5 : decode cX11_carry 5 = .ok (.iconst 2, 1) := by decide +kernel
theorem dX11_carry_6 : decode cX11_carry 6 = .ok (.invokevirtual 295, 3) := by decide +kernel
theorem dX11_carry_9 : decode cX11_carry 9 = .ok (.ifCond .eq 15, 3) := by decide +kernel
theorem dX11_carry_12 : decode cX11_carry 12 = .ok (.aload_n 0, 1) := by decide +kernel
theorem dX11_carry_13 : decode cX11_carry 13 = .ok (.getfield 20, 3) := by decide +kernel
theorem dX11_carry_16 : decode cX11_carry 16 = .ok (.iload_n 2, 1) := by decide +kernel
theorem dX11_carry_17 : decode cX11_carry 17 = .ok (.iconst 2, 1) := by decide +kernel
theorem dX11_carry_18 : decode cX11_carry 18 = .ok (.invokevirtual 295, 3) := by decide +kernel
theorem dX11_carry_21 : decode cX11_carry 21 = .ok (.ifCond .ne 27, 3) := by decide +kernel
theorem dX11_carry_24 : decode cX11_carry 24 = .ok (.aload_n 0, 1) := by decide +kernel
theorem dX11_carry_25 : decode cX11_carry 25 = .ok (.getfield 20, 3) := by decide +kernel
theorem dX11_carry_28 : decode cX11_carry 28 = .ok (.iload_n 1, 1) := by decide +kernel
theorem dX11_carry_29 : decode cX11_carry 29 = .ok (.iconst 1, 1) := by decide +kernel
theorem dX11_carry_30 : decode cX11_carry 30 = .ok (.invokevirtual 295, 3) := by decide +kernel
theorem dX11_carry_33 : decode cX11_carry 33 = .ok (.ifCond .eq 19, 3) := by decide +kernel
theorem dX11_carry_36 : decode cX11_carry 36 = .ok (.aload_n 0, 1) := by decide +kernel
theorem dX11_carry_37 : decode cX11_carry 37 = .ok (.getfield 20, 3) := by decide +kernel
theorem dX11_carry_40 : decode cX11_carry 40 = .ok (.iload_n 2, 1) := by decide +kernel
theorem dX11_carry_41 : decode cX11_carry 41 = .ok (.iconst 1, 1) := by decide +kernel
theorem dX11_carry_42 : decode cX11_carry 42 = .ok (.invokevirtual 295, 3) := by decide +kernel
theorem dX11_carry_45 : decode cX11_carry 45 = .ok (.ifCond .eq 7, 3) := by decide +kernel
theorem dX11_carry_48 : decode cX11_carry 48 = .ok (.iconst 1, 1) := by decide +kernel
theorem dX11_carry_49 : decode cX11_carry 49 = .ok (.goto 4, 3) := by decide +kernel
theorem dX11_carry_52 : decode cX11_carry 52 = .ok (.iconst 0, 1) := by decide +kernel
theorem dX11_carry_53 : decode cX11_carry 53 = .ok (.istore 4, 2) := by decide +kernel
theorem dX11_carry_55 : decode cX11_carry 55 = .ok (.iload 4, 2) := by decide +kernel
theorem dX11_carry_57 : decode cX11_carry 57 = .ok (.ifCond .eq 37, 3) := by decide +kernel
theorem dX11_carry_60 : decode cX11_carry 60 = .ok (.iload_n 1, 1) := by decide +kernel
theorem dX11_carry_61 : decode cX11_carry 61 = .ok (.iload_n 2, 1) := by decide +kernel
theorem dX11_carry_62 : decode cX11_carry 62 = .ok (.if_icmp .eq 32, 3) := by decide +kernel
theorem dX11_carry_65 : decode cX11_carry 65 = .ok (.iload_n 3, 1) := by decide +kernel
theorem dX11_carry_66 : decode cX11_carry 66 = .ok (.iconst 1, 1) := by decide +kernel
theorem dX11_carry_67 : decode cX11_carry 67 = .ok (.aload_n 0, 1) := by decide +kernel
theorem dX11_carry_68 : decode cX11_carry 68 = .ok (.getfield 20, 3) := by decide +kernel
theorem dX11_carry_71 : decode cX11_carry 71 = .ok (.getfield 98, 3) := by decide +kernel
theorem dX11_carry_74 : decode cX11_carry 74 = .ok (.iload_n 1, 1) := by decide +kernel
theorem dX11_carry_75 : decode cX11_carry 75 = .ok (.iaload, 1) := by decide +kernel
theorem dX11_carry_76 : decode cX11_carry 76 = .ok (.invokestatic 81, 3) := by decide +kernel
theorem dX11_carry_79 : decode cX11_carry 79 = .ok (.ifCond .eq 15, 3) := by decide +kernel
theorem dX11_carry_82 : decode cX11_carry 82 = .ok (.aload_n 0, 1) := by decide +kernel
theorem dX11_carry_83 : decode cX11_carry 83 = .ok (.getfield 20, 3) := by decide +kernel
theorem dX11_carry_86 : decode cX11_carry 86 = .ok (.iload_n 2, 1) := by decide +kernel
theorem dX11_carry_87 : decode cX11_carry 87 = .ok (.invokevirtual 268, 3) := by decide +kernel
theorem dX11_carry_90 : decode cX11_carry 90 = .ok (.iload_n 3, 1) := by decide +kernel
theorem dX11_carry_91 : decode cX11_carry 91 = .ok (.if_icmp .ge 5, 3) := by decide +kernel
theorem dX11_carry_94 : decode cX11_carry 94 = .ok (.iconst 0, 1) := by decide +kernel
theorem dX11_carry_95 : decode cX11_carry 95 = .ok (.ireturn, 1) := by decide +kernel
theorem dX11_carry_96 : decode cX11_carry 96 = .ok (.aload_n 0, 1) := by decide +kernel
theorem dX11_carry_97 : decode cX11_carry 97 = .ok (.getfield 20, 3) := by decide +kernel
theorem dX11_carry_100 : decode cX11_carry 100 = .ok (.getfield 98, 3) := by decide +kernel
theorem dX11_carry_103 : decode cX11_carry 103 = .ok (.iload_n 1, 1) := by decide +kernel
theorem dX11_carry_104 : decode cX11_carry 104 = .ok (.dup2, 1) := by decide +kernel
theorem dX11_carry_105 : decode cX11_carry 105 = .ok (.iaload, 1) := by decide +kernel
theorem dX11_carry_106 : decode cX11_carry 106 = .ok (.iload_n 3, 1) := by decide +kernel
theorem dX11_carry_107 : decode cX11_carry 107 = .ok (.isub, 1) := by decide +kernel
theorem dX11_carry_108 : decode cX11_carry 108 = .ok (.iastore, 1) := by decide +kernel
theorem dX11_carry_109 : decode cX11_carry 109 = .ok (.aload_n 0, 1) := by decide +kernel
theorem dX11_carry_110 : decode cX11_carry 110 = .ok (.getfield 20, 3) := by decide +kernel
theorem dX11_carry_113 : decode cX11_carry 113 = .ok (.getfield 98, 3) := by decide +kernel
theorem dX11_carry_116 : decode cX11_carry 116 = .ok (.iload_n 2, 1) := by decide +kernel
theorem dX11_carry_117 : decode cX11_carry 117 = .ok (.dup2, 1) := by decide +kernel
theorem dX11_carry_118 : decode cX11_carry 118 = .ok (.iaload, 1) := by decide +kernel
theorem dX11_carry_119 : decode cX11_carry 119 = .ok (.iload_n 3, 1) := by decide +kernel
theorem dX11_carry_120 : decode cX11_carry 120 = .ok (.iadd, 1) := by decide +kernel
theorem dX11_carry_121 : decode cX11_carry 121 = .ok (.iastore, 1) := by decide +kernel
theorem dX11_carry_122 : decode cX11_carry 122 = .ok (.iconst 1, 1) := by decide +kernel
theorem dX11_carry_123 : decode cX11_carry 123 = .ok (.ireturn, 1) := by decide +kernel
theorem dX11_telling_0 : decode cX11_telling 0 = .ok (.aload_n 0, 1) := by decide +kernel
theorem dX11_telling_1 : decode cX11_telling 1 = .ok (.getfield 213, 3) := by decide +kernel
theorem dX11_telling_4 : decode cX11_telling 4 = .ok (.istore_n 1, 1) := by decide +kernel
theorem dX11_telling_5 : decode cX11_telling 5 = .ok (.aload_n 0, 1) := by decide +kernel
theorem dX11_telling_6 : decode cX11_telling 6 = .ok (.iconst 0, 1) := by decide +kernel
theorem dX11_telling_7 : decode cX11_telling 7 = .ok (.putfield 213, 3) := by decide +kernel
theorem dX11_telling_10 : decode cX11_telling 10 = .ok (.aload_n 0, 1) := by decide +kernel
theorem dX11_telling_11 : decode cX11_telling 11 = .ok (.getfield 63, 3) := by decide +kernel
theorem dX11_telling_14 : decode cX11_telling 14 = .ok (.getfield 354, 3) := by decide +kernel
theorem dX11_telling_17 : decode cX11_telling 17 = .ok (.bipush 6, 2) := by decide +kernel
theorem dX11_telling_19 : decode cX11_telling 19 = .ok (.if_icmp .lt 6, 3) := by decide +kernel
theorem dX11_telling_22 : decode cX11_telling 22 = .ok (.bipush (-100), 2) := by decide +kernel
theorem dX11_telling_24 : decode cX11_telling 24 = .ok (.ireturn, 1) := by decide +kernel
theorem dX11_telling_25 : decode cX11_telling 25 = .ok (.aload_n 0, 1) := by decide +kernel
theorem dX11_telling_26 : decode cX11_telling 26 = .ok (.getfield 63, 3) := by decide +kernel
theorem dX11_telling_29 : decode cX11_telling 29 = .ok (.aload_n 0, 1) := by decide +kernel
theorem dX11_telling_30 : decode cX11_telling 30 = .ok (.getfield 33, 3) := by decide +kernel
theorem dX11_telling_33 : decode cX11_telling 33 = .ok (.iload_n 1, 1) := by decide +kernel
theorem dX11_telling_34 : decode cX11_telling 34 = .ok (.invokevirtual 355, 3) := by decide +kernel
theorem dX11_telling_37 : decode cX11_telling 37 = .ok (.istore_n 2, 1) := by decide +kernel
theorem dX11_telling_38 : decode cX11_telling 38 = .ok (.iload_n 2, 1) := by decide +kernel
theorem dX11_telling_39 : decode cX11_telling 39 = .ok (.iconst (-1), 1) := by decide +kernel
theorem dX11_telling_40 : decode cX11_telling 40 = .ok (.if_icmp .ne 15, 3) := by decide +kernel
theorem dX11_telling_43 : decode cX11_telling 43 = .ok (.aload_n 0, 1) := by decide +kernel
theorem dX11_telling_44 : decode cX11_telling 44 = .ok (.getfield 63, 3) := by decide +kernel
theorem dX11_telling_47 : decode cX11_telling 47 = .ok (.getfield 354, 3) := by decide +kernel
theorem dX11_telling_50 : decode cX11_telling 50 = .ok (.iconst 1, 1) := by decide +kernel
theorem dX11_telling_51 : decode cX11_telling 51 = .ok (.isub, 1) := by decide +kernel
theorem dX11_telling_52 : decode cX11_telling 52 = .ok (.goto 6, 3) := by decide +kernel
theorem dX11_telling_55 : decode cX11_telling 55 = .ok (.iconst (-1), 1) := by decide +kernel
theorem dX11_telling_56 : decode cX11_telling 56 = .ok (.iload_n 2, 1) := by decide +kernel
theorem dX11_telling_57 : decode cX11_telling 57 = .ok (.isub, 1) := by decide +kernel
theorem dX11_telling_58 : decode cX11_telling 58 = .ok (.ireturn, 1) := by decide +kernel
theorem dX11_gauge_0 : decode cX11_gauge 0 = .ok (.iload_n 1, 1) := by decide +kernel
theorem dX11_gauge_1 : decode cX11_gauge 1 = .ok (.iconst 0, 1) := by decide +kernel
theorem dX11_gauge_2 : decode cX11_gauge 2 = .ok (.sipush 200, 3) := by decide +kernel
theorem dX11_gauge_5 : decode cX11_gauge 5 = .ok (.invokestatic 81, 3) := by decide +kernel
theorem dX11_gauge_8 : decode cX11_gauge 8 = .ok (.ifCond .eq 35, 3) := by decide +kernel
theorem dX11_gauge_11 : decode cX11_gauge 11 = .ok (.iload_n 2, 1) := by decide +kernel
theorem dX11_gauge_12 : decode cX11_gauge 12 = .ok (.invokestatic 142, 3) := by decide +kernel
theorem dX11_gauge_15 : decode cX11_gauge 15 = .ok (.ifCond .eq 28, 3) := by decide +kernel
theorem dX11_gauge_18 : decode cX11_gauge 18 = .ok (.iload_n 3, 1) := by decide +kernel
theorem dX11_gauge_19 : decode cX11_gauge 19 = .ok (.iconst 0, 1) := by decide +kernel
theorem dX11_gauge_20 : decode cX11_gauge 20 = .ok (.iconst 2, 1) := by decide +kernel
theorem dX11_gauge_21 : decode cX11_gauge 21 = .ok (.invokestatic 81, 3) := by decide +kernel
theorem dX11_gauge_24 : decode cX11_gauge 24 = .ok (.ifCond .eq 19, 3) := by decide +kernel
theorem dX11_gauge_27 : decode cX11_gauge 27 = .ok (.iload 4, 2) := by decide +kernel
theorem dX11_gauge_29 : decode cX11_gauge 29 = .ok (.ldc 122, 2) := by decide +kernel
theorem dX11_gauge_31 : decode cX11_gauge 31 = .ok (.ldc 123, 2) := by decide +kernel
theorem dX11_gauge_33 : decode cX11_gauge 33 = .ok (.invokestatic 81, 3) := by decide +kernel
theorem dX11_gauge_36 : decode cX11_gauge 36 = .ok (.ifCond .eq 7, 3) := by decide +kernel
theorem dX11_gauge_39 : decode cX11_gauge 39 = .ok (.iconst 1, 1) := by decide +kernel
theorem dX11_gauge_40 : decode cX11_gauge 40 = .ok (.goto 4, 3) := by decide +kernel
theorem dX11_gauge_43 : decode cX11_gauge 43 = .ok (.iconst 0, 1) := by decide +kernel
theorem dX11_gauge_44 : decode cX11_gauge 44 = .ok (.istore 5, 2) := by decide +kernel
theorem dX11_gauge_46 : decode cX11_gauge 46 = .ok (.iload 5, 2) := by decide +kernel
theorem dX11_gauge_48 : decode cX11_gauge 48 = .ok (.ifCond .eq 18, 3) := by decide +kernel
theorem dX11_gauge_51 : decode cX11_gauge 51 = .ok (.aload_n 0, 1) := by decide +kernel
theorem dX11_gauge_52 : decode cX11_gauge 52 = .ok (.getfield 63, 3) := by decide +kernel
theorem dX11_gauge_55 : decode cX11_gauge 55 = .ok (.iload_n 1, 1) := by decide +kernel
theorem dX11_gauge_56 : decode cX11_gauge 56 = .ok (.iload_n 2, 1) := by decide +kernel
theorem dX11_gauge_57 : decode cX11_gauge 57 = .ok (.iload_n 3, 1) := by decide +kernel
theorem dX11_gauge_58 : decode cX11_gauge 58 = .ok (.iload 4, 2) := by decide +kernel
theorem dX11_gauge_60 : decode cX11_gauge 60 = .ok (.invokevirtual 356, 3) := by decide +kernel
theorem dX11_gauge_63 : decode cX11_gauge 63 = .ok (.goto 4, 3) := by decide +kernel
theorem dX11_gauge_66 : decode cX11_gauge 66 = .ok (.iconst (-1), 1) := by decide +kernel
theorem dX11_gauge_67 : decode cX11_gauge 67 = .ok (.ireturn, 1) := by decide +kernel
theorem dX11_tells_0 : decode cX11_tells 0 = .ok (.iload_n 1, 1) := by decide +kernel
theorem dX11_tells_1 : decode cX11_tells 1 = .ok (.iconst 0, 1) := by decide +kernel
theorem dX11_tells_2 : decode cX11_tells 2 = .ok (.aload_n 0, 1) := by decide +kernel
theorem dX11_tells_3 : decode cX11_tells 3 = .ok (.getfield 63, 3) := by decide +kernel
theorem dX11_tells_6 : decode cX11_tells 6 = .ok (.getfield 354, 3) := by decide +kernel
theorem dX11_tells_9 : decode cX11_tells 9 = .ok (.iconst 1, 1) := by decide +kernel
theorem dX11_tells_10 : decode cX11_tells 10 = .ok (.isub, 1) := by decide +kernel
theorem dX11_tells_11 : decode cX11_tells 11 = .ok (.invokestatic 81, 3) := by decide +kernel
theorem dX11_tells_14 : decode cX11_tells 14 = .ok (.ifCond .eq 35, 3) := by decide +kernel
theorem dX11_tells_17 : decode cX11_tells 17 = .ok (.iload_n 2, 1) := by decide +kernel
theorem dX11_tells_18 : decode cX11_tells 18 = .ok (.iconst 0, 1) := by decide +kernel
theorem dX11_tells_19 : decode cX11_tells 19 = .ok (.sipush 200, 3) := by decide +kernel
theorem dX11_tells_22 : decode cX11_tells 22 = .ok (.invokestatic 81, 3) := by decide +kernel
theorem dX11_tells_25 : decode cX11_tells 25 = .ok (.ifCond .eq 24, 3) := by decide +kernel
theorem dX11_tells_28 : decode cX11_tells 28 = .ok (.iload_n 3, 1) := by decide +kernel
theorem dX11_tells_29 : decode cX11_tells 29 = .ok (.invokestatic 142, 3) := by decide +kernel
theorem dX11_tells_32 : decode cX11_tells 32 = .ok (.ifCond .eq 17, 3) := by decide +kernel
theorem dX11_tells_35 : decode cX11_tells 35 = .ok (.iload 4, 2) := by decide +kernel
theorem dX11_tells_37 : decode cX11_tells 37 = .ok (.iconst 0, 1) := by decide +kernel
theorem dX11_tells_38 : decode cX11_tells 38 = .ok (.iconst 2, 1) := by decide +kernel
theorem dX11_tells_39 : decode cX11_tells 39 = .ok (.invokestatic 81, 3) := by decide +kernel
theorem dX11_tells_42 : decode cX11_tells 42 = .ok (.ifCond .eq 7, 3) := by decide +kernel
theorem dX11_tells_45 : decode cX11_tells 45 = .ok (.iconst 1, 1) := by decide +kernel
theorem dX11_tells_46 : decode cX11_tells 46 = .ok (.goto 4, 3) := by decide +kernel
theorem dX11_tells_49 : decode cX11_tells 49 = .ok (.iconst 0, 1) := by decide +kernel
theorem dX11_tells_50 : decode cX11_tells 50 = .ok (.istore 5, 2) := by decide +kernel
theorem dX11_tells_52 : decode cX11_tells 52 = .ok (.iload 5, 2) := by decide +kernel
theorem dX11_tells_54 : decode cX11_tells 54 = .ok (.ifCond .ne 14, 3) := by decide +kernel
theorem dX11_tells_57 : decode cX11_tells 57 = .ok (.new 154, 3) := by decide +kernel
theorem dX11_tells_60 : decode cX11_tells 60 = .ok (.dup, 1) := by decide +kernel
theorem dX11_tells_61 : decode cX11_tells 61 = .ok (.ldc_w 360, 3) := by decide +kernel
theorem dX11_tells_64 : decode cX11_tells 64 = .ok (.invokespecial 158, 3) := by decide +kernel
theorem dX11_tells_67 : decode cX11_tells 67 = .ok (.athrow, 1) := by decide +kernel
theorem dX11_tells_68 : decode cX11_tells 68 = .ok (.aload_n 0, 1) := by decide +kernel
theorem dX11_tells_69 : decode cX11_tells 69 = .ok (.getfield 63, 3) := by decide +kernel
theorem dX11_tells_72 : decode cX11_tells 72 = .ok (.iload_n 1, 1) := by decide +kernel
theorem dX11_tells_73 : decode cX11_tells 73 = .ok (.iload_n 2, 1) := by decide +kernel
theorem dX11_tells_74 : decode cX11_tells 74 = .ok (.iload_n 3, 1) := by decide +kernel
theorem dX11_tells_75 : decode cX11_tells 75 = .ok (.iload 4, 2) := by decide +kernel
theorem dX11_tells_77 : decode cX11_tells 77 = .ok (.invokevirtual 362, 3) := by decide +kernel
theorem dX11_tells_80 : decode cX11_tells 80 = .ok (.ireturn, 1) := by decide +kernel
theorem dX11_fits_0 : decode cX11_fits 0 = .ok (.iload_n 1, 1) := by decide +kernel
theorem dX11_fits_1 : decode cX11_fits 1 = .ok (.iconst 0, 1) := by decide +kernel
theorem dX11_fits_2 : decode cX11_fits 2 = .ok (.bipush 99, 2) := by decide +kernel
theorem dX11_fits_4 : decode cX11_fits 4 = .ok (.invokestatic 81, 3) := by decide +kernel
theorem dX11_fits_7 : decode cX11_fits 7 = .ok (.ifCond .ne 5, 3) := by decide +kernel
theorem dX11_fits_10 : decode cX11_fits 10 = .ok (.iconst (-1), 1) := by decide +kernel
theorem dX11_fits_11 : decode cX11_fits 11 = .ok (.ireturn, 1) := by decide +kernel
theorem dX11_fits_12 : decode cX11_fits 12 = .ok (.aload_n 0, 1) := by decide +kernel
theorem dX11_fits_13 : decode cX11_fits 13 = .ok (.getfield 29, 3) := by decide +kernel
theorem dX11_fits_16 : decode cX11_fits 16 = .ok (.invokevirtual 207, 3) := by decide +kernel
theorem dX11_fits_19 : decode cX11_fits 19 = .ok (.iconst 0, 1) := by decide +kernel
theorem dX11_fits_20 : decode cX11_fits 20 = .ok (.istore_n 2, 1) := by decide +kernel
theorem dX11_fits_21 : decode cX11_fits 21 = .ok (.iload_n 2, 1) := by decide +kernel
theorem dX11_fits_22 : decode cX11_fits 22 = .ok (.aload_n 0, 1) := by decide +kernel
theorem dX11_fits_23 : decode cX11_fits 23 = .ok (.getfield 63, 3) := by decide +kernel
theorem dX11_fits_26 : decode cX11_fits 26 = .ok (.getfield 354, 3) := by decide +kernel
theorem dX11_fits_29 : decode cX11_fits 29 = .ok (.if_icmp .ge 24, 3) := by decide +kernel
theorem dX11_fits_32 : decode cX11_fits 32 = .ok (.aload_n 0, 1) := by decide +kernel
theorem dX11_fits_33 : decode cX11_fits 33 = .ok (.getfield 29, 3) := by decide +kernel
theorem dX11_fits_36 : decode cX11_fits 36 = .ok (.aload_n 0, 1) := by decide +kernel
theorem dX11_fits_37 : decode cX11_fits 37 = .ok (.getfield 63, 3) := by decide +kernel
theorem dX11_fits_40 : decode cX11_fits 40 = .ok (.iload_n 2, 1) := by decide +kernel
theorem dX11_fits_41 : decode cX11_fits 41 = .ok (.invokevirtual 365, 3) := by decide +kernel
theorem dX11_fits_44 : decode cX11_fits 44 = .ok (.invokevirtual 210, 3) := by decide +kernel
theorem dX11_fits_47 : decode cX11_fits 47 = .ok (.iinc 2 1, 3) := by decide +kernel
theorem dX11_fits_50 : decode cX11_fits 50 = .ok (.goto (-29), 3) := by decide +kernel
theorem dX11_fits_53 : decode cX11_fits 53 = .ok (.aload_n 0, 1) := by decide +kernel
theorem dX11_fits_54 : decode cX11_fits 54 = .ok (.getfield 63, 3) := by decide +kernel
theorem dX11_fits_57 : decode cX11_fits 57 = .ok (.iload_n 1, 1) := by decide +kernel
theorem dX11_fits_58 : decode cX11_fits 58 = .ok (.invokevirtual 368, 3) := by decide +kernel
theorem dX11_fits_61 : decode cX11_fits 61 = .ok (.ireturn, 1) := by decide +kernel
theorem dX11_look_0 : decode cX11_look 0 = .ok (.iload_n 1, 1) := by decide +kernel
theorem dX11_look_1 : decode cX11_look 1 = .ok (.iconst 0, 1) := by decide +kernel
theorem dX11_look_2 : decode cX11_look 2 = .ok (.bipush 99, 2) := by decide +kernel
theorem dX11_look_4 : decode cX11_look 4 = .ok (.invokestatic 81, 3) := by decide +kernel
theorem dX11_look_7 : decode cX11_look 7 = .ok (.ifCond .eq 10, 3) := by decide +kernel
theorem dX11_look_10 : decode cX11_look 10 = .ok (.iload_n 2, 1) := by decide +kernel
theorem dX11_look_11 : decode cX11_look 11 = .ok (.invokestatic 142, 3) := by decide +kernel
theorem dX11_look_14 : decode cX11_look 14 = .ok (.ifCond .ne 5, 3) := by decide +kernel
theorem dX11_look_17 : decode cX11_look 17 = .ok (.iconst (-1), 1) := by decide +kernel
theorem dX11_look_18 : decode cX11_look 18 = .ok (.ireturn, 1) := by decide +kernel
theorem dX11_look_19 : decode cX11_look 19 = .ok (.aload_n 0, 1) := by decide +kernel
theorem dX11_look_20 : decode cX11_look 20 = .ok (.getfield 63, 3) := by decide +kernel
theorem dX11_look_23 : decode cX11_look 23 = .ok (.iload_n 1, 1) := by decide +kernel
theorem dX11_look_24 : decode cX11_look 24 = .ok (.invokevirtual 368, 3) := by decide +kernel
theorem dX11_look_27 : decode cX11_look 27 = .ok (.istore_n 3, 1) := by decide +kernel
theorem dX11_look_28 : decode cX11_look 28 = .ok (.iload_n 3, 1) := by decide +kernel
theorem dX11_look_29 : decode cX11_look 29 = .ok (.invokestatic 371, 3) := by decide +kernel
theorem dX11_look_32 : decode cX11_look 32 = .ok (.iconst 2, 1) := by decide +kernel
theorem dX11_look_33 : decode cX11_look 33 = .ok (.if_icmp .ge 6, 3) := by decide +kernel
theorem dX11_look_36 : decode cX11_look 36 = .ok (.bipush (-2), 2) := by decide +kernel
theorem dX11_look_38 : decode cX11_look 38 = .ok (.ireturn, 1) := by decide +kernel
theorem dX11_look_39 : decode cX11_look 39 = .ok (.bipush 7, 2) := by decide +kernel
theorem dX11_look_41 : decode cX11_look 41 = .ok (.istore 4, 2) := by decide +kernel
theorem dX11_look_43 : decode cX11_look 43 = .ok (.iconst 0, 1) := by decide +kernel
theorem dX11_look_44 : decode cX11_look 44 = .ok (.istore 5, 2) := by decide +kernel
theorem dX11_look_46 : decode cX11_look 46 = .ok (.iconst 0, 1) := by decide +kernel
theorem dX11_look_47 : decode cX11_look 47 = .ok (.istore 6, 2) := by decide +kernel
theorem dX11_look_49 : decode cX11_look 49 = .ok (.iconst 0, 1) := by decide +kernel
theorem dX11_look_50 : decode cX11_look 50 = .ok (.istore 7, 2) := by decide +kernel
theorem dX11_look_52 : decode cX11_look 52 = .ok (.iload 7, 2) := by decide +kernel
theorem dX11_look_54 : decode cX11_look 54 = .ok (.bipush 24, 2) := by decide +kernel
theorem dX11_look_56 : decode cX11_look 56 = .ok (.if_icmp .gt 58, 3) := by decide +kernel
theorem dX11_look_59 : decode cX11_look 59 = .ok (.iconst 0, 1) := by decide +kernel
theorem dX11_look_60 : decode cX11_look 60 = .ok (.istore 8, 2) := by decide +kernel
theorem dX11_look_62 : decode cX11_look 62 = .ok (.iload 8, 2) := by decide +kernel
theorem dX11_look_64 : decode cX11_look 64 = .ok (.iconst 2, 1) := by decide +kernel
theorem dX11_look_65 : decode cX11_look 65 = .ok (.if_icmp .gt 43, 3) := by decide +kernel
theorem dX11_look_68 : decode cX11_look 68 = .ok (.aload_n 0, 1) := by decide +kernel
theorem dX11_look_69 : decode cX11_look 69 = .ok (.getfield 63, 3) := by decide +kernel
theorem dX11_look_72 : decode cX11_look 72 = .ok (.iload_n 3, 1) := by decide +kernel
theorem dX11_look_73 : decode cX11_look 73 = .ok (.iload_n 1, 1) := by decide +kernel
theorem dX11_look_74 : decode cX11_look 74 = .ok (.iload 7, 2) := by decide +kernel
theorem dX11_look_76 : decode cX11_look 76 = .ok (.iload 8, 2) := by decide +kernel
theorem dX11_look_78 : decode cX11_look 78 = .ok (.invokevirtual 376, 3) := by decide +kernel
theorem dX11_look_81 : decode cX11_look 81 = .ok (.istore 9, 2) := by decide +kernel
theorem dX11_look_83 : decode cX11_look 83 = .ok (.iload 9, 2) := by decide +kernel
theorem dX11_look_85 : decode cX11_look 85 = .ok (.iload 4, 2) := by decide +kernel
theorem dX11_look_87 : decode cX11_look 87 = .ok (.if_icmp .ge 15, 3) := by decide +kernel
theorem dX11_look_90 : decode cX11_look 90 = .ok (.iload 9, 2) := by decide +kernel
theorem dX11_look_92 : decode cX11_look 92 = .ok (.istore 4, 2) := by decide +kernel
theorem dX11_look_94 : decode cX11_look 94 = .ok (.iload 7, 2) := by decide +kernel
theorem dX11_look_96 : decode cX11_look 96 = .ok (.istore 5, 2) := by decide +kernel
theorem dX11_look_98 : decode cX11_look 98 = .ok (.iload 8, 2) := by decide +kernel
theorem dX11_look_100 : decode cX11_look 100 = .ok (.istore 6, 2) := by decide +kernel
theorem dX11_look_102 : decode cX11_look 102 = .ok (.iinc 8 1, 3) := by decide +kernel
theorem dX11_look_105 : decode cX11_look 105 = .ok (.goto (-43), 3) := by decide +kernel
theorem dX11_look_108 : decode cX11_look 108 = .ok (.iinc 7 1, 3) := by decide +kernel
theorem dX11_look_111 : decode cX11_look 111 = .ok (.goto (-59), 3) := by decide +kernel
theorem dX11_look_114 : decode cX11_look 114 = .ok (.aload_n 0, 1) := by decide +kernel
theorem dX11_look_115 : decode cX11_look 115 = .ok (.getfield 29, 3) := by decide +kernel
theorem dX11_look_118 : decode cX11_look 118 = .ok (.invokevirtual 207, 3) := by decide +kernel
theorem dX11_look_121 : decode cX11_look 121 = .ok (.aload_n 0, 1) := by decide +kernel
theorem dX11_look_122 : decode cX11_look 122 = .ok (.getfield 29, 3) := by decide +kernel
theorem dX11_look_125 : decode cX11_look 125 = .ok (.iload 5, 2) := by decide +kernel
theorem dX11_look_127 : decode cX11_look 127 = .ok (.invokevirtual 210, 3) := by decide +kernel
theorem dX11_look_130 : decode cX11_look 130 = .ok (.aload_n 0, 1) := by decide +kernel
theorem dX11_look_131 : decode cX11_look 131 = .ok (.getfield 29, 3) := by decide +kernel
theorem dX11_look_134 : decode cX11_look 134 = .ok (.iload 6, 2) := by decide +kernel
theorem dX11_look_136 : decode cX11_look 136 = .ok (.invokevirtual 210, 3) := by decide +kernel
theorem dX11_look_139 : decode cX11_look 139 = .ok (.iload 4, 2) := by decide +kernel
theorem dX11_look_141 : decode cX11_look 141 = .ok (.ireturn, 1) := by decide +kernel
theorem dX11_air_0 : decode cX11_air 0 = .ok (.iload_n 1, 1) := by decide +kernel
theorem dX11_air_1 : decode cX11_air 1 = .ok (.iconst 0, 1) := by decide +kernel
theorem dX11_air_2 : decode cX11_air 2 = .ok (.ldc 121, 2) := by decide +kernel
theorem dX11_air_4 : decode cX11_air 4 = .ok (.invokestatic 81, 3) := by decide +kernel
theorem dX11_air_7 : decode cX11_air 7 = .ok (.ifCond .ne 5, 3) := by decide +kernel
theorem dX11_air_10 : decode cX11_air 10 = .ok (.iconst (-1), 1) := by decide +kernel
theorem dX11_air_11 : decode cX11_air 11 = .ok (.ireturn, 1) := by decide +kernel
theorem dX11_air_12 : decode cX11_air 12 = .ok (.aload_n 0, 1) := by decide +kernel
theorem dX11_air_13 : decode cX11_air 13 = .ok (.getfield 10, 3) := by decide +kernel
theorem dX11_air_16 : decode cX11_air 16 = .ok (.getfield 379, 3) := by decide +kernel
theorem dX11_air_19 : decode cX11_air 19 = .ok (.istore_n 2, 1) := by decide +kernel
theorem dX11_air_20 : decode cX11_air 20 = .ok (.aload_n 0, 1) := by decide +kernel
theorem dX11_air_21 : decode cX11_air 21 = .ok (.getfield 10, 3) := by decide +kernel
theorem dX11_air_24 : decode cX11_air 24 = .ok (.iload_n 1, 1) := by decide +kernel
theorem dX11_air_25 : decode cX11_air 25 = .ok (.putfield 379, 3) := by decide +kernel
theorem dX11_air_28 : decode cX11_air 28 = .ok (.iload_n 2, 1) := by decide +kernel
theorem dX11_air_29 : decode cX11_air 29 = .ok (.ireturn, 1) := by decide +kernel
theorem dX11_airFor_0 : decode cX11_airFor 0 = .ok (.iload_n 0, 1) := by decide +kernel
theorem dX11_airFor_1 : decode cX11_airFor 1 = .ok (.iload_n 1, 1) := by decide +kernel
theorem dX11_airFor_2 : decode cX11_airFor 2 = .ok (.bipush 10, 2) := by decide +kernel
theorem dX11_airFor_4 : decode cX11_airFor 4 = .ok (.iadd, 1) := by decide +kernel
theorem dX11_airFor_5 : decode cX11_airFor 5 = .ok (.imul, 1) := by decide +kernel
theorem dX11_airFor_6 : decode cX11_airFor 6 = .ok (.bipush 9, 2) := by decide +kernel
theorem dX11_airFor_8 : decode cX11_airFor 8 = .ok (.iadd, 1) := by decide +kernel
theorem dX11_airFor_9 : decode cX11_airFor 9 = .ok (.bipush 10, 2) := by decide +kernel
theorem dX11_airFor_11 : decode cX11_airFor 11 = .ok (.idiv, 1) := by decide +kernel
theorem dX11_airFor_12 : decode cX11_airFor 12 = .ok (.ireturn, 1) := by decide +kernel
theorem dX11_blow_0 : decode cX11_blow 0 = .ok (.aload_n 0, 1) := by decide +kernel
theorem dX11_blow_1 : decode cX11_blow 1 = .ok (.getfield 20, 3) := by decide +kernel
theorem dX11_blow_4 : decode cX11_blow 4 = .ok (.iload_n 1, 1) := by decide +kernel
theorem dX11_blow_5 : decode cX11_blow 5 = .ok (.iconst 0, 1) := by decide +kernel
theorem dX11_blow_6 : decode cX11_blow 6 = .ok (.invokevirtual 295, 3) := by decide +kernel
theorem dX11_blow_9 : decode cX11_blow 9 = .ok (.ifCond .eq 10, 3) := by decide +kernel
theorem dX11_blow_12 : decode cX11_blow 12 = .ok (.iload_n 2, 1) := by decide +kernel
theorem dX11_blow_13 : decode cX11_blow 13 = .ok (.invokestatic 142, 3) := by decide +kernel
theorem dX11_blow_16 : decode cX11_blow 16 = .ok (.ifCond .ne 5, 3) := by decide +kernel
theorem dX11_blow_19 : decode cX11_blow 19 = .ok (.iconst (-1), 1) := by decide +kernel
theorem dX11_blow_20 : decode cX11_blow 20 = .ok (.ireturn, 1) := by decide +kernel
theorem dX11_blow_21 : decode cX11_blow 21 = .ok (.aload_n 0, 1) := by decide +kernel
theorem dX11_blow_22 : decode cX11_blow 22 = .ok (.getfield 20, 3) := by decide +kernel
theorem dX11_blow_25 : decode cX11_blow 25 = .ok (.getfield 98, 3) := by decide +kernel
theorem dX11_blow_28 : decode cX11_blow 28 = .ok (.iload_n 1, 1) := by decide +kernel
theorem dX11_blow_29 : decode cX11_blow 29 = .ok (.iaload, 1) := by decide +kernel
theorem dX11_blow_30 : decode cX11_blow 30 = .ok (.iload_n 2, 1) := by decide +kernel
theorem dX11_blow_31 : decode cX11_blow 31 = .ok (.invokestatic 382, 3) := by decide +kernel
theorem dX11_blow_34 : decode cX11_blow 34 = .ok (.istore_n 3, 1) := by decide +kernel
theorem dX11_blow_35 : decode cX11_blow 35 = .ok (.iload_n 3, 1) := by decide +kernel
theorem dX11_blow_36 : decode cX11_blow 36 = .ok (.aload_n 0, 1) := by decide +kernel
theorem dX11_blow_37 : decode cX11_blow 37 = .ok (.getfield 10, 3) := by decide +kernel
theorem dX11_blow_40 : decode cX11_blow 40 = .ok (.getfield 379, 3) := by decide +kernel
theorem dX11_blow_43 : decode cX11_blow 43 = .ok (.if_icmp .le 6, 3) := by decide +kernel
theorem dX11_blow_46 : decode cX11_blow 46 = .ok (.bipush (-2), 2) := by decide +kernel
theorem dX11_blow_48 : decode cX11_blow 48 = .ok (.ireturn, 1) := by decide +kernel
theorem dX11_blow_49 : decode cX11_blow 49 = .ok (.aload_n 0, 1) := by decide +kernel
theorem dX11_blow_50 : decode cX11_blow 50 = .ok (.getfield 20, 3) := by decide +kernel
theorem dX11_blow_53 : decode cX11_blow 53 = .ok (.getfield 98, 3) := by decide +kernel
theorem dX11_blow_56 : decode cX11_blow 56 = .ok (.iload_n 1, 1) := by decide +kernel
theorem dX11_blow_57 : decode cX11_blow 57 = .ok (.iconst 0, 1) := by decide +kernel
theorem dX11_blow_58 : decode cX11_blow 58 = .ok (.iastore, 1) := by decide +kernel
theorem dX11_blow_59 : decode cX11_blow 59 = .ok (.aload_n 0, 1) := by decide +kernel
theorem dX11_blow_60 : decode cX11_blow 60 = .ok (.getfield 10, 3) := by decide +kernel
theorem dX11_blow_63 : decode cX11_blow 63 = .ok (.dup, 1) := by decide +kernel
theorem dX11_blow_64 : decode cX11_blow 64 = .ok (.getfield 379, 3) := by decide +kernel
theorem dX11_blow_67 : decode cX11_blow 67 = .ok (.iload_n 3, 1) := by decide +kernel
theorem dX11_blow_68 : decode cX11_blow 68 = .ok (.isub, 1) := by decide +kernel
theorem dX11_blow_69 : decode cX11_blow 69 = .ok (.putfield 379, 3) := by decide +kernel
theorem dX11_blow_72 : decode cX11_blow 72 = .ok (.aload_n 0, 1) := by decide +kernel
theorem dX11_blow_73 : decode cX11_blow 73 = .ok (.getfield 10, 3) := by decide +kernel
theorem dX11_blow_76 : decode cX11_blow 76 = .ok (.getfield 379, 3) := by decide +kernel
theorem dX11_blow_79 : decode cX11_blow 79 = .ok (.ireturn, 1) := by decide +kernel
theorem dX11_areTanks_0 : decode cX11_areTanks 0 = .ok (.iload_n 1, 1) := by decide +kernel
theorem dX11_areTanks_1 : decode cX11_areTanks 1 = .ok (.ifCond .eq 19, 3) := by decide +kernel
theorem dX11_areTanks_4 : decode cX11_areTanks 4 = .ok (.iload_n 1, 1) := by decide +kernel
theorem dX11_areTanks_5 : decode cX11_areTanks 5 = .ok (.aload_n 0, 1) := by decide +kernel
theorem dX11_areTanks_6 : decode cX11_areTanks 6 = .ok (.getfield 20, 3) := by decide +kernel
theorem dX11_areTanks_9 : decode cX11_areTanks 9 = .ok (.getfield 104, 3) := by decide +kernel
theorem dX11_areTanks_12 : decode cX11_areTanks 12 = .ok (.iushr, 1) := by decide +kernel
theorem dX11_areTanks_13 : decode cX11_areTanks 13 = .ok (.ifCond .ne 7, 3) := by decide +kernel
theorem dX11_areTanks_16 : decode cX11_areTanks 16 = .ok (.iconst 1, 1) := by decide +kernel
theorem dX11_areTanks_17 : decode cX11_areTanks 17 = .ok (.goto 4, 3) := by decide +kernel
theorem dX11_areTanks_20 : decode cX11_areTanks 20 = .ok (.iconst 0, 1) := by decide +kernel
theorem dX11_areTanks_21 : decode cX11_areTanks 21 = .ok (.istore_n 2, 1) := by decide +kernel
theorem dX11_areTanks_22 : decode cX11_areTanks 22 = .ok (.iconst 0, 1) := by decide +kernel
theorem dX11_areTanks_23 : decode cX11_areTanks 23 = .ok (.istore_n 3, 1) := by decide +kernel
theorem dX11_areTanks_24 : decode cX11_areTanks 24 = .ok (.iload_n 3, 1) := by decide +kernel
theorem dX11_areTanks_25 : decode cX11_areTanks 25 = .ok (.aload_n 0, 1) := by decide +kernel
theorem dX11_areTanks_26 : decode cX11_areTanks 26 = .ok (.getfield 20, 3) := by decide +kernel
theorem dX11_areTanks_29 : decode cX11_areTanks 29 = .ok (.getfield 104, 3) := by decide +kernel
theorem dX11_areTanks_32 : decode cX11_areTanks 32 = .ok (.if_icmp .ge 39, 3) := by decide +kernel
theorem dX11_areTanks_35 : decode cX11_areTanks 35 = .ok (.iload_n 2, 1) := by decide +kernel
theorem dX11_areTanks_36 : decode cX11_areTanks 36 = .ok (.ifCond .eq 27, 3) := by decide +kernel
theorem dX11_areTanks_39 : decode cX11_areTanks 39 = .ok (.iload_n 1, 1) := by decide +kernel
theorem dX11_areTanks_40 : decode cX11_areTanks 40 = .ok (.iload_n 3, 1) := by decide +kernel
theorem dX11_areTanks_41 : decode cX11_areTanks 41 = .ok (.ishr, 1) := by decide +kernel
theorem dX11_areTanks_42 : decode cX11_areTanks 42 = .ok (.iconst 1, 1) := by decide +kernel
theorem dX11_areTanks_43 : decode cX11_areTanks 43 = .ok (.iand, 1) := by decide +kernel
theorem dX11_areTanks_44 : decode cX11_areTanks 44 = .ok (.ifCond .eq 15, 3) := by decide +kernel
theorem dX11_areTanks_47 : decode cX11_areTanks 47 = .ok (.aload_n 0, 1) := by decide +kernel
theorem dX11_areTanks_48 : decode cX11_areTanks 48 = .ok (.getfield 20, 3) := by decide +kernel
theorem dX11_areTanks_51 : decode cX11_areTanks 51 = .ok (.getfield 161, 3) := by decide +kernel
theorem dX11_areTanks_54 : decode cX11_areTanks 54 = .ok (.iload_n 3, 1) := by decide +kernel
theorem dX11_areTanks_55 : decode cX11_areTanks 55 = .ok (.iaload, 1) := by decide +kernel
theorem dX11_areTanks_56 : decode cX11_areTanks 56 = .ok (.ifCond .ne 7, 3) := by decide +kernel
theorem dX11_areTanks_59 : decode cX11_areTanks 59 = .ok (.iconst 1, 1) := by decide +kernel
theorem dX11_areTanks_60 : decode cX11_areTanks 60 = .ok (.goto 4, 3) := by decide +kernel
theorem dX11_areTanks_63 : decode cX11_areTanks 63 = .ok (.iconst 0, 1) := by decide +kernel
theorem dX11_areTanks_64 : decode cX11_areTanks 64 = .ok (.istore_n 2, 1) := by decide +kernel
theorem dX11_areTanks_65 : decode cX11_areTanks 65 = .ok (.iinc 3 1, 3) := by decide +kernel
theorem dX11_areTanks_68 : decode cX11_areTanks 68 = .ok (.goto (-44), 3) := by decide +kernel
theorem dX11_areTanks_71 : decode cX11_areTanks 71 = .ok (.iload_n 2, 1) := by decide +kernel
theorem dX11_areTanks_72 : decode cX11_areTanks 72 = .ok (.ireturn, 1) := by decide +kernel
theorem dX11_airForAll_0 : decode cX11_airForAll 0 = .ok (.iconst 0, 1) := by decide +kernel
theorem dX11_airForAll_1 : decode cX11_airForAll 1 = .ok (.istore_n 3, 1) := by decide +kernel
theorem dX11_airForAll_2 : decode cX11_airForAll 2 = .ok (.iconst 0, 1) := by decide +kernel
theorem dX11_airForAll_3 : decode cX11_airForAll 3 = .ok (.istore 4, 2) := by decide +kernel
theorem dX11_airForAll_5 : decode cX11_airForAll 5 = .ok (.iload 4, 2) := by decide +kernel
theorem dX11_airForAll_7 : decode cX11_airForAll 7 = .ok (.aload_n 0, 1) := by decide +kernel
theorem dX11_airForAll_8 : decode cX11_airForAll 8 = .ok (.getfield 20, 3) := by decide +kernel
theorem dX11_airForAll_11 : decode cX11_airForAll 11 = .ok (.getfield 104, 3) := by decide +kernel
theorem dX11_airForAll_14 : decode cX11_airForAll 14 = .ok (.if_icmp .ge 39, 3) := by decide +kernel
theorem dX11_airForAll_17 : decode cX11_airForAll 17 = .ok (.iload_n 3, 1) := by decide +kernel
theorem dX11_airForAll_18 : decode cX11_airForAll 18 = .ok (.iload_n 1, 1) := by decide +kernel
theorem dX11_airForAll_19 : decode cX11_airForAll 19 = .ok (.iload 4, 2) := by decide +kernel
theorem dX11_airForAll_21 : decode cX11_airForAll 21 = .ok (.ishr, 1) := by decide +kernel
theorem dX11_airForAll_22 : decode cX11_airForAll 22 = .ok (.iconst 1, 1) := by decide +kernel
theorem dX11_airForAll_23 : decode cX11_airForAll 23 = .ok (.iand, 1) := by decide +kernel
theorem dX11_airForAll_24 : decode cX11_airForAll 24 = .ok (.ifCond .ne 7, 3) := by decide +kernel
theorem dX11_airForAll_27 : decode cX11_airForAll 27 = .ok (.iconst 0, 1) := by decide +kernel
theorem dX11_airForAll_28 : decode cX11_airForAll 28 = .ok (.goto 17, 3) := by decide +kernel
theorem dX11_airForAll_31 : decode cX11_airForAll 31 = .ok (.aload_n 0, 1) := by decide +kernel
theorem dX11_airForAll_32 : decode cX11_airForAll 32 = .ok (.getfield 20, 3) := by decide +kernel
theorem dX11_airForAll_35 : decode cX11_airForAll 35 = .ok (.getfield 98, 3) := by decide +kernel
theorem dX11_airForAll_38 : decode cX11_airForAll 38 = .ok (.iload 4, 2) := by decide +kernel
theorem dX11_airForAll_40 : decode cX11_airForAll 40 = .ok (.iaload, 1) := by decide +kernel
theorem dX11_airForAll_41 : decode cX11_airForAll 41 = .ok (.iload_n 2, 1) := by decide +kernel
theorem dX11_airForAll_42 : decode cX11_airForAll 42 = .ok (.invokestatic 382, 3) := by decide +kernel
theorem dX11_airForAll_45 : decode cX11_airForAll 45 = .ok (.iadd, 1) := by decide +kernel
theorem dX11_airForAll_46 : decode cX11_airForAll 46 = .ok (.istore_n 3, 1) := by decide +kernel
theorem dX11_airForAll_47 : decode cX11_airForAll 47 = .ok (.iinc 4 1, 3) := by decide +kernel
theorem dX11_airForAll_50 : decode cX11_airForAll 50 = .ok (.goto (-45), 3) := by decide +kernel
theorem dX11_airForAll_53 : decode cX11_airForAll 53 = .ok (.iload_n 3, 1) := by decide +kernel
theorem dX11_airForAll_54 : decode cX11_airForAll 54 = .ok (.ireturn, 1) := by decide +kernel
theorem dX11_tanksHave_0 : decode cX11_tanksHave 0 = .ok (.iconst 0, 1) := by decide +kernel
theorem dX11_tanksHave_1 : decode cX11_tanksHave 1 = .ok (.istore_n 2, 1) := by decide +kernel
theorem dX11_tanksHave_2 : decode cX11_tanksHave 2 = .ok (.iconst 0, 1) := by decide +kernel
theorem dX11_tanksHave_3 : decode cX11_tanksHave 3 = .ok (.istore_n 3, 1) := by decide +kernel
theorem dX11_tanksHave_4 : decode cX11_tanksHave 4 = .ok (.iload_n 3, 1) := by decide +kernel
theorem dX11_tanksHave_5 : decode cX11_tanksHave 5 = .ok (.aload_n 0, 1) := by decide +kernel
theorem dX11_tanksHave_6 : decode cX11_tanksHave 6 = .ok (.getfield 20, 3) := by decide +kernel
theorem dX11_tanksHave_9 : decode cX11_tanksHave 9 = .ok (.getfield 104, 3) := by decide +kernel
theorem dX11_tanksHave_12 : decode cX11_tanksHave 12 = .ok (.if_icmp .ge 33, 3) := by decide +kernel
theorem dX11_tanksHave_15 : decode cX11_tanksHave 15 = .ok (.iload_n 2, 1) := by decide +kernel
theorem dX11_tanksHave_16 : decode cX11_tanksHave 16 = .ok (.iload_n 1, 1) := by decide +kernel
theorem dX11_tanksHave_17 : decode cX11_tanksHave 17 = .ok (.iload_n 3, 1) := by decide +kernel
theorem dX11_tanksHave_18 : decode cX11_tanksHave 18 = .ok (.ishr, 1) := by decide +kernel
theorem dX11_tanksHave_19 : decode cX11_tanksHave 19 = .ok (.iconst 1, 1) := by decide +kernel
theorem dX11_tanksHave_20 : decode cX11_tanksHave 20 = .ok (.iand, 1) := by decide +kernel
theorem dX11_tanksHave_21 : decode cX11_tanksHave 21 = .ok (.ifCond .ne 7, 3) := by decide +kernel
theorem dX11_tanksHave_24 : decode cX11_tanksHave 24 = .ok (.iconst 0, 1) := by decide +kernel
theorem dX11_tanksHave_25 : decode cX11_tanksHave 25 = .ok (.goto 12, 3) := by decide +kernel
theorem dX11_tanksHave_28 : decode cX11_tanksHave 28 = .ok (.aload_n 0, 1) := by decide +kernel
theorem dX11_tanksHave_29 : decode cX11_tanksHave 29 = .ok (.getfield 20, 3) := by decide +kernel
theorem dX11_tanksHave_32 : decode cX11_tanksHave 32 = .ok (.getfield 98, 3) := by decide +kernel
theorem dX11_tanksHave_35 : decode cX11_tanksHave 35 = .ok (.iload_n 3, 1) := by decide +kernel
theorem dX11_tanksHave_36 : decode cX11_tanksHave 36 = .ok (.iaload, 1) := by decide +kernel
theorem dX11_tanksHave_37 : decode cX11_tanksHave 37 = .ok (.iadd, 1) := by decide +kernel
theorem dX11_tanksHave_38 : decode cX11_tanksHave 38 = .ok (.istore_n 2, 1) := by decide +kernel
theorem dX11_tanksHave_39 : decode cX11_tanksHave 39 = .ok (.iinc 3 1, 3) := by decide +kernel
theorem dX11_tanksHave_42 : decode cX11_tanksHave 42 = .ok (.goto (-38), 3) := by decide +kernel
theorem dX11_tanksHave_45 : decode cX11_tanksHave 45 = .ok (.iload_n 2, 1) := by decide +kernel
theorem dX11_tanksHave_46 : decode cX11_tanksHave 46 = .ok (.ireturn, 1) := by decide +kernel
theorem dX11_isLess_0 : decode cX11_isLess 0 = .ok (.iload_n 2, 1) := by decide +kernel
theorem dX11_isLess_1 : decode cX11_isLess 1 = .ok (.iconst (-1), 1) := by decide +kernel
theorem dX11_isLess_2 : decode cX11_isLess 2 = .ok (.if_icmp .eq 8, 3) := by decide +kernel
theorem dX11_isLess_5 : decode cX11_isLess 5 = .ok (.iload_n 1, 1) := by decide +kernel
theorem dX11_isLess_6 : decode cX11_isLess 6 = .ok (.iload_n 3, 1) := by decide +kernel
theorem dX11_isLess_7 : decode cX11_isLess 7 = .ok (.if_icmp .eq 19, 3) := by decide +kernel
theorem dX11_isLess_10 : decode cX11_isLess 10 = .ok (.iload_n 2, 1) := by decide +kernel
theorem dX11_isLess_11 : decode cX11_isLess 11 = .ok (.iconst (-1), 1) := by decide +kernel
theorem dX11_isLess_12 : decode cX11_isLess 12 = .ok (.if_icmp .eq 8, 3) := by decide +kernel
theorem dX11_isLess_15 : decode cX11_isLess 15 = .ok (.iload_n 1, 1) := by decide +kernel
theorem dX11_isLess_16 : decode cX11_isLess 16 = .ok (.iload_n 3, 1) := by decide +kernel
theorem dX11_isLess_17 : decode cX11_isLess 17 = .ok (.if_icmp .ge 7, 3) := by decide +kernel
theorem dX11_isLess_20 : decode cX11_isLess 20 = .ok (.iconst 1, 1) := by decide +kernel
theorem dX11_isLess_21 : decode cX11_isLess 21 = .ok (.goto 4, 3) := by decide +kernel
theorem dX11_isLess_24 : decode cX11_isLess 24 = .ok (.iconst 0, 1) := by decide +kernel
theorem dX11_isLess_25 : decode cX11_isLess 25 = .ok (.ireturn, 1) := by decide +kernel
theorem dX11_isLess_26 : decode cX11_isLess 26 = .ok (.iload_n 0, 1) := by decide +kernel
theorem dX11_isLess_27 : decode cX11_isLess 27 = .ok (.invokestatic 371, 3) := by decide +kernel
theorem dX11_isLess_30 : decode cX11_isLess 30 = .ok (.iload_n 2, 1) := by decide +kernel
theorem dX11_isLess_31 : decode cX11_isLess 31 = .ok (.invokestatic 371, 3) := by decide +kernel
theorem dX11_isLess_34 : decode cX11_isLess 34 = .ok (.if_icmp .ge 7, 3) := by decide +kernel
theorem dX11_isLess_37 : decode cX11_isLess 37 = .ok (.iconst 1, 1) := by decide +kernel
theorem dX11_isLess_38 : decode cX11_isLess 38 = .ok (.goto 4, 3) := by decide +kernel
theorem dX11_isLess_41 : decode cX11_isLess 41 = .ok (.iconst 0, 1) := by decide +kernel
theorem dX11_isLess_42 : decode cX11_isLess 42 = .ok (.ireturn, 1) := by decide +kernel
theorem dX11_rise_0 : decode cX11_rise 0 = .ok (.iload_n 1, 1) := by decide +kernel
theorem dX11_rise_1 : decode cX11_rise 1 = .ok (.invokestatic 371, 3) := by decide +kernel
theorem dX11_rise_4 : decode cX11_rise 4 = .ok (.istore_n 3, 1) := by decide +kernel
theorem dX11_rise_5 : decode cX11_rise 5 = .ok (.aload_n 0, 1) := by decide +kernel
theorem dX11_rise_6 : decode cX11_rise 6 = .ok (.iload_n 1, 1) := by decide +kernel
theorem dX11_rise_7 : decode cX11_rise 7 = .ok (.invokevirtual 385, 3) := by decide +kernel
theorem dX11_rise_10 : decode cX11_rise 10 = .ok (.ifCond .eq 20, 3) := by decide +kernel
theorem dX11_rise_13 : decode cX11_rise 13 = .ok (.iload_n 3, 1) := by decide +kernel
theorem dX11_rise_14 : decode cX11_rise 14 = .ok (.iconst 1, 1) := by decide +kernel
theorem dX11_rise_15 : decode cX11_rise 15 = .ok (.bipush 8, 2) := by decide +kernel
theorem dX11_rise_17 : decode cX11_rise 17 = .ok (.invokestatic 81, 3) := by decide +kernel
theorem dX11_rise_20 : decode cX11_rise 20 = .ok (.ifCond .eq 10, 3) := by decide +kernel
theorem dX11_rise_23 : decode cX11_rise 23 = .ok (.iload_n 2, 1) := by decide +kernel
theorem dX11_rise_24 : decode cX11_rise 24 = .ok (.invokestatic 142, 3) := by decide +kernel
theorem dX11_rise_27 : decode cX11_rise 27 = .ok (.ifCond .ne 5, 3) := by decide +kernel
theorem dX11_rise_30 : decode cX11_rise 30 = .ok (.iconst (-1), 1) := by decide +kernel
theorem dX11_rise_31 : decode cX11_rise 31 = .ok (.ireturn, 1) := by decide +kernel
theorem dX11_rise_32 : decode cX11_rise 32 = .ok (.aload_n 0, 1) := by decide +kernel
theorem dX11_rise_33 : decode cX11_rise 33 = .ok (.getfield 10, 3) := by decide +kernel
theorem dX11_rise_36 : decode cX11_rise 36 = .ok (.iload_n 2, 1) := by decide +kernel
theorem dX11_rise_37 : decode cX11_rise 37 = .ok (.invokevirtual 174, 3) := by decide +kernel
theorem dX11_rise_40 : decode cX11_rise 40 = .ok (.istore 4, 2) := by decide +kernel
theorem dX11_rise_42 : decode cX11_rise 42 = .ok (.iconst (-1), 1) := by decide +kernel
theorem dX11_rise_43 : decode cX11_rise 43 = .ok (.istore 5, 2) := by decide +kernel
theorem dX11_rise_45 : decode cX11_rise 45 = .ok (.iconst 0, 1) := by decide +kernel
theorem dX11_rise_46 : decode cX11_rise 46 = .ok (.istore 6, 2) := by decide +kernel
theorem dX11_rise_48 : decode cX11_rise 48 = .ok (.iconst 0, 1) := by decide +kernel
theorem dX11_rise_49 : decode cX11_rise 49 = .ok (.istore 7, 2) := by decide +kernel
theorem dX11_rise_51 : decode cX11_rise 51 = .ok (.iconst 0, 1) := by decide +kernel
theorem dX11_rise_52 : decode cX11_rise 52 = .ok (.istore 8, 2) := by decide +kernel
theorem dX11_rise_54 : decode cX11_rise 54 = .ok (.iload 8, 2) := by decide +kernel
theorem dX11_rise_56 : decode cX11_rise 56 = .ok (.iconst 1, 1) := by decide +kernel
theorem dX11_rise_57 : decode cX11_rise 57 = .ok (.iload_n 3, 1) := by decide +kernel
theorem dX11_rise_58 : decode cX11_rise 58 = .ok (.ishl, 1) := by decide +kernel
theorem dX11_rise_59 : decode cX11_rise 59 = .ok (.if_icmp .ge 71, 3) := by decide +kernel
theorem dX11_rise_62 : decode cX11_rise 62 = .ok (.aload_n 0, 1) := by decide +kernel
theorem dX11_rise_63 : decode cX11_rise 63 = .ok (.iload 7, 2) := by decide +kernel
theorem dX11_rise_65 : decode cX11_rise 65 = .ok (.iload_n 2, 1) := by decide +kernel
theorem dX11_rise_66 : decode cX11_rise 66 = .ok (.invokevirtual 388, 3) := by decide +kernel
theorem dX11_rise_69 : decode cX11_rise 69 = .ok (.istore 9, 2) := by decide +kernel
theorem dX11_rise_71 : decode cX11_rise 71 = .ok (.iload 9, 2) := by decide +kernel
theorem dX11_rise_73 : decode cX11_rise 73 = .ok (.aload_n 0, 1) := by decide +kernel
theorem dX11_rise_74 : decode cX11_rise 74 = .ok (.getfield 10, 3) := by decide +kernel
theorem dX11_rise_77 : decode cX11_rise 77 = .ok (.getfield 379, 3) := by decide +kernel
theorem dX11_rise_80 : decode cX11_rise 80 = .ok (.if_icmp .gt 36, 3) := by decide +kernel
theorem dX11_rise_83 : decode cX11_rise 83 = .ok (.iload 4, 2) := by decide +kernel
theorem dX11_rise_85 : decode cX11_rise 85 = .ok (.aload_n 0, 1) := by decide +kernel
theorem dX11_rise_86 : decode cX11_rise 86 = .ok (.iload 7, 2) := by decide +kernel
theorem dX11_rise_88 : decode cX11_rise 88 = .ok (.invokevirtual 391, 3) := by decide +kernel
theorem dX11_rise_91 : decode cX11_rise 91 = .ok (.if_icmp .ge 25, 3) := by decide +kernel
theorem dX11_rise_94 : decode cX11_rise 94 = .ok (.iload 7, 2) := by decide +kernel
theorem dX11_rise_96 : decode cX11_rise 96 = .ok (.iload 9, 2) := by decide +kernel
theorem dX11_rise_98 : decode cX11_rise 98 = .ok (.iload 5, 2) := by decide +kernel
theorem dX11_rise_100 : decode cX11_rise 100 = .ok (.iload 6, 2) := by decide +kernel
theorem dX11_rise_102 : decode cX11_rise 102 = .ok (.invokestatic 394, 3) := by decide +kernel
theorem dX11_rise_105 : decode cX11_rise 105 = .ok (.ifCond .eq 11, 3) := by decide +kernel
theorem dX11_rise_108 : decode cX11_rise 108 = .ok (.iload 7, 2) := by decide +kernel
theorem dX11_rise_110 : decode cX11_rise 110 = .ok (.istore 5, 2) := by decide +kernel
theorem dX11_rise_112 : decode cX11_rise 112 = .ok (.iload 9, 2) := by decide +kernel
theorem dX11_rise_114 : decode cX11_rise 114 = .ok (.istore 6, 2) := by decide +kernel
theorem dX11_rise_116 : decode cX11_rise 116 = .ok (.iload 7, 2) := by decide +kernel
theorem dX11_rise_118 : decode cX11_rise 118 = .ok (.iload_n 1, 1) := by decide +kernel
theorem dX11_rise_119 : decode cX11_rise 119 = .ok (.isub, 1) := by decide +kernel
theorem dX11_rise_120 : decode cX11_rise 120 = .ok (.iload_n 1, 1) := by decide +kernel
theorem dX11_rise_121 : decode cX11_rise 121 = .ok (.iand, 1) := by decide +kernel
theorem dX11_rise_122 : decode cX11_rise 122 = .ok (.istore 7, 2) := by decide +kernel
theorem dX11_rise_124 : decode cX11_rise 124 = .ok (.iinc 8 1, 3) := by decide +kernel
theorem dX11_rise_127 : decode cX11_rise 127 = .ok (.goto (-73), 3) := by decide +kernel
theorem dX11_rise_130 : decode cX11_rise 130 = .ok (.iload 5, 2) := by decide +kernel
theorem dX11_rise_132 : decode cX11_rise 132 = .ok (.iconst (-1), 1) := by decide +kernel
theorem dX11_rise_133 : decode cX11_rise 133 = .ok (.if_icmp .ne 6, 3) := by decide +kernel
theorem dX11_rise_136 : decode cX11_rise 136 = .ok (.bipush (-2), 2) := by decide +kernel
theorem dX11_rise_138 : decode cX11_rise 138 = .ok (.ireturn, 1) := by decide +kernel
theorem dX11_rise_139 : decode cX11_rise 139 = .ok (.aload_n 0, 1) := by decide +kernel
theorem dX11_rise_140 : decode cX11_rise 140 = .ok (.getfield 29, 3) := by decide +kernel
theorem dX11_rise_143 : decode cX11_rise 143 = .ok (.invokevirtual 207, 3) := by decide +kernel
theorem dX11_rise_146 : decode cX11_rise 146 = .ok (.aload_n 0, 1) := by decide +kernel
theorem dX11_rise_147 : decode cX11_rise 147 = .ok (.getfield 29, 3) := by decide +kernel
theorem dX11_rise_150 : decode cX11_rise 150 = .ok (.iload 5, 2) := by decide +kernel
theorem dX11_rise_152 : decode cX11_rise 152 = .ok (.invokevirtual 210, 3) := by decide +kernel
theorem dX11_rise_155 : decode cX11_rise 155 = .ok (.aload_n 0, 1) := by decide +kernel
theorem dX11_rise_156 : decode cX11_rise 156 = .ok (.getfield 29, 3) := by decide +kernel
theorem dX11_rise_159 : decode cX11_rise 159 = .ok (.aload_n 0, 1) := by decide +kernel
theorem dX11_rise_160 : decode cX11_rise 160 = .ok (.getfield 10, 3) := by decide +kernel
theorem dX11_rise_163 : decode cX11_rise 163 = .ok (.getfield 379, 3) := by decide +kernel
theorem dX11_rise_166 : decode cX11_rise 166 = .ok (.iload 6, 2) := by decide +kernel
theorem dX11_rise_168 : decode cX11_rise 168 = .ok (.isub, 1) := by decide +kernel
theorem dX11_rise_169 : decode cX11_rise 169 = .ok (.invokevirtual 210, 3) := by decide +kernel
theorem dX11_rise_172 : decode cX11_rise 172 = .ok (.iload 5, 2) := by decide +kernel
theorem dX11_rise_174 : decode cX11_rise 174 = .ok (.invokestatic 371, 3) := by decide +kernel
theorem dX11_rise_177 : decode cX11_rise 177 = .ok (.ireturn, 1) := by decide +kernel
theorem dX11_times_0 : decode cX11_times 0 = .ok (.aload_n 0, 1) := by decide +kernel
theorem dX11_times_1 : decode cX11_times 1 = .ok (.iload_n 1, 1) := by decide +kernel
theorem dX11_times_2 : decode cX11_times 2 = .ok (.invokevirtual 385, 3) := by decide +kernel
theorem dX11_times_5 : decode cX11_times 5 = .ok (.ifCond .eq 10, 3) := by decide +kernel
theorem dX11_times_8 : decode cX11_times 8 = .ok (.iload_n 2, 1) := by decide +kernel
theorem dX11_times_9 : decode cX11_times 9 = .ok (.invokestatic 142, 3) := by decide +kernel
theorem dX11_times_12 : decode cX11_times 12 = .ok (.ifCond .ne 5, 3) := by decide +kernel
theorem dX11_times_15 : decode cX11_times 15 = .ok (.iconst (-1), 1) := by decide +kernel
theorem dX11_times_16 : decode cX11_times 16 = .ok (.ireturn, 1) := by decide +kernel
theorem dX11_times_17 : decode cX11_times 17 = .ok (.iconst 0, 1) := by decide +kernel
theorem dX11_times_18 : decode cX11_times 18 = .ok (.istore_n 3, 1) := by decide +kernel
theorem dX11_times_19 : decode cX11_times 19 = .ok (.iconst 0, 1) := by decide +kernel
theorem dX11_times_20 : decode cX11_times 20 = .ok (.istore 4, 2) := by decide +kernel
theorem dX11_times_22 : decode cX11_times 22 = .ok (.iload 4, 2) := by decide +kernel
theorem dX11_times_24 : decode cX11_times 24 = .ok (.aload_n 0, 1) := by decide +kernel
theorem dX11_times_25 : decode cX11_times 25 = .ok (.getfield 20, 3) := by decide +kernel
theorem dX11_times_28 : decode cX11_times 28 = .ok (.getfield 104, 3) := by decide +kernel
theorem dX11_times_31 : decode cX11_times 31 = .ok (.if_icmp .ge 39, 3) := by decide +kernel
theorem dX11_times_34 : decode cX11_times 34 = .ok (.iload_n 3, 1) := by decide +kernel
theorem dX11_times_35 : decode cX11_times 35 = .ok (.iload_n 1, 1) := by decide +kernel
theorem dX11_times_36 : decode cX11_times 36 = .ok (.iload 4, 2) := by decide +kernel
theorem dX11_times_38 : decode cX11_times 38 = .ok (.ishr, 1) := by decide +kernel
theorem dX11_times_39 : decode cX11_times 39 = .ok (.iconst 1, 1) := by decide +kernel
theorem dX11_times_40 : decode cX11_times 40 = .ok (.iand, 1) := by decide +kernel
theorem dX11_times_41 : decode cX11_times 41 = .ok (.ifCond .ne 7, 3) := by decide +kernel
theorem dX11_times_44 : decode cX11_times 44 = .ok (.iconst 0, 1) := by decide +kernel
theorem dX11_times_45 : decode cX11_times 45 = .ok (.goto 17, 3) := by decide +kernel
theorem dX11_times_48 : decode cX11_times 48 = .ok (.aload_n 0, 1) := by decide +kernel
theorem dX11_times_49 : decode cX11_times 49 = .ok (.getfield 20, 3) := by decide +kernel
theorem dX11_times_52 : decode cX11_times 52 = .ok (.getfield 95, 3) := by decide +kernel
theorem dX11_times_55 : decode cX11_times 55 = .ok (.iload 4, 2) := by decide +kernel
theorem dX11_times_57 : decode cX11_times 57 = .ok (.iaload, 1) := by decide +kernel
theorem dX11_times_58 : decode cX11_times 58 = .ok (.iload_n 2, 1) := by decide +kernel
theorem dX11_times_59 : decode cX11_times 59 = .ok (.invokestatic 382, 3) := by decide +kernel
theorem dX11_times_62 : decode cX11_times 62 = .ok (.iadd, 1) := by decide +kernel
theorem dX11_times_63 : decode cX11_times 63 = .ok (.istore_n 3, 1) := by decide +kernel
theorem dX11_times_64 : decode cX11_times 64 = .ok (.iinc 4 1, 3) := by decide +kernel
theorem dX11_times_67 : decode cX11_times 67 = .ok (.goto (-45), 3) := by decide +kernel
theorem dX11_times_70 : decode cX11_times 70 = .ok (.iload_n 3, 1) := by decide +kernel
theorem dX11_times_71 : decode cX11_times 71 = .ok (.ifCond .gt 5, 3) := by decide +kernel
theorem dX11_times_74 : decode cX11_times 74 = .ok (.iconst (-1), 1) := by decide +kernel
theorem dX11_times_75 : decode cX11_times 75 = .ok (.ireturn, 1) := by decide +kernel
theorem dX11_times_76 : decode cX11_times 76 = .ok (.aload_n 0, 1) := by decide +kernel
theorem dX11_times_77 : decode cX11_times 77 = .ok (.getfield 29, 3) := by decide +kernel
theorem dX11_times_80 : decode cX11_times 80 = .ok (.invokevirtual 207, 3) := by decide +kernel
theorem dX11_times_83 : decode cX11_times 83 = .ok (.aload_n 0, 1) := by decide +kernel
theorem dX11_times_84 : decode cX11_times 84 = .ok (.getfield 29, 3) := by decide +kernel
theorem dX11_times_87 : decode cX11_times 87 = .ok (.aload_n 0, 1) := by decide +kernel
theorem dX11_times_88 : decode cX11_times 88 = .ok (.getfield 10, 3) := by decide +kernel
theorem dX11_times_91 : decode cX11_times 91 = .ok (.getfield 379, 3) := by decide +kernel
theorem dX11_times_94 : decode cX11_times 94 = .ok (.iload_n 3, 1) := by decide +kernel
theorem dX11_times_95 : decode cX11_times 95 = .ok (.irem, 1) := by decide +kernel
theorem dX11_times_96 : decode cX11_times 96 = .ok (.invokevirtual 210, 3) := by decide +kernel
theorem dX11_times_99 : decode cX11_times 99 = .ok (.aload_n 0, 1) := by decide +kernel
theorem dX11_times_100 : decode cX11_times 100 = .ok (.getfield 10, 3) := by decide +kernel
theorem dX11_times_103 : decode cX11_times 103 = .ok (.getfield 379, 3) := by decide +kernel
theorem dX11_times_106 : decode cX11_times 106 = .ok (.iload_n 3, 1) := by decide +kernel
theorem dX11_times_107 : decode cX11_times 107 = .ok (.idiv, 1) := by decide +kernel
theorem dX11_times_108 : decode cX11_times 108 = .ok (.ireturn, 1) := by decide +kernel
theorem dX11_eats_0 : decode cX11_eats 0 = .ok (.iload 4, 2) := by decide +kernel
theorem dX11_eats_2 : decode cX11_eats 2 = .ok (.iconst (-1), 1) := by decide +kernel
theorem dX11_eats_3 : decode cX11_eats 3 = .ok (.if_icmp .eq 35, 3) := by decide +kernel
theorem dX11_eats_6 : decode cX11_eats 6 = .ok (.iload 4, 2) := by decide +kernel
theorem dX11_eats_8 : decode cX11_eats 8 = .ok (.iload_n 1, 1) := by decide +kernel
theorem dX11_eats_9 : decode cX11_eats 9 = .ok (.if_icmp .eq 33, 3) := by decide +kernel
theorem dX11_eats_12 : decode cX11_eats 12 = .ok (.aload_n 0, 1) := by decide +kernel
theorem dX11_eats_13 : decode cX11_eats 13 = .ok (.getfield 20, 3) := by decide +kernel
theorem dX11_eats_16 : decode cX11_eats 16 = .ok (.iload 4, 2) := by decide +kernel
theorem dX11_eats_18 : decode cX11_eats 18 = .ok (.iconst 1, 1) := by decide +kernel
theorem dX11_eats_19 : decode cX11_eats 19 = .ok (.invokevirtual 295, 3) := by decide +kernel
theorem dX11_eats_22 : decode cX11_eats 22 = .ok (.ifCond .ne 16, 3) := by decide +kernel
theorem dX11_eats_25 : decode cX11_eats 25 = .ok (.aload_n 0, 1) := by decide +kernel
theorem dX11_eats_26 : decode cX11_eats 26 = .ok (.getfield 20, 3) := by decide +kernel
theorem dX11_eats_29 : decode cX11_eats 29 = .ok (.iload 4, 2) := by decide +kernel
theorem dX11_eats_31 : decode cX11_eats 31 = .ok (.iconst 0, 1) := by decide +kernel
theorem dX11_eats_32 : decode cX11_eats 32 = .ok (.invokevirtual 295, 3) := by decide +kernel
theorem dX11_eats_35 : decode cX11_eats 35 = .ok (.ifCond .eq 7, 3) := by decide +kernel
theorem dX11_eats_38 : decode cX11_eats 38 = .ok (.iconst 1, 1) := by decide +kernel
theorem dX11_eats_39 : decode cX11_eats 39 = .ok (.goto 4, 3) := by decide +kernel
theorem dX11_eats_42 : decode cX11_eats 42 = .ok (.iconst 0, 1) := by decide +kernel
theorem dX11_eats_43 : decode cX11_eats 43 = .ok (.istore 5, 2) := by decide +kernel
theorem dX11_eats_45 : decode cX11_eats 45 = .ok (.aload_n 0, 1) := by decide +kernel
theorem dX11_eats_46 : decode cX11_eats 46 = .ok (.getfield 20, 3) := by decide +kernel
theorem dX11_eats_49 : decode cX11_eats 49 = .ok (.iload_n 1, 1) := by decide +kernel
theorem dX11_eats_50 : decode cX11_eats 50 = .ok (.iconst 1, 1) := by decide +kernel
theorem dX11_eats_51 : decode cX11_eats 51 = .ok (.invokevirtual 295, 3) := by decide +kernel
theorem dX11_eats_54 : decode cX11_eats 54 = .ok (.ifCond .eq 28, 3) := by decide +kernel
theorem dX11_eats_57 : decode cX11_eats 57 = .ok (.iload_n 2, 1) := by decide +kernel
theorem dX11_eats_58 : decode cX11_eats 58 = .ok (.iconst 0, 1) := by decide +kernel
theorem dX11_eats_59 : decode cX11_eats 59 = .ok (.bipush 50, 2) := by decide +kernel
theorem dX11_eats_61 : decode cX11_eats 61 = .ok (.invokestatic 81, 3) := by decide +kernel
theorem dX11_eats_64 : decode cX11_eats 64 = .ok (.ifCond .eq 18, 3) := by decide +kernel
theorem dX11_eats_67 : decode cX11_eats 67 = .ok (.iload_n 3, 1) := by decide +kernel
theorem dX11_eats_68 : decode cX11_eats 68 = .ok (.iconst 0, 1) := by decide +kernel
theorem dX11_eats_69 : decode cX11_eats 69 = .ok (.bipush 100, 2) := by decide +kernel
theorem dX11_eats_71 : decode cX11_eats 71 = .ok (.invokestatic 81, 3) := by decide +kernel
theorem dX11_eats_74 : decode cX11_eats 74 = .ok (.ifCond .eq 8, 3) := by decide +kernel
theorem dX11_eats_77 : decode cX11_eats 77 = .ok (.iload 5, 2) := by decide +kernel
theorem dX11_eats_79 : decode cX11_eats 79 = .ok (.ifCond .ne 5, 3) := by decide +kernel
theorem dX11_eats_82 : decode cX11_eats 82 = .ok (.iconst 0, 1) := by decide +kernel
theorem dX11_eats_83 : decode cX11_eats 83 = .ok (.ireturn, 1) := by decide +kernel
theorem dX11_eats_84 : decode cX11_eats 84 = .ok (.aload_n 0, 1) := by decide +kernel
theorem dX11_eats_85 : decode cX11_eats 85 = .ok (.getfield 70, 3) := by decide +kernel
theorem dX11_eats_88 : decode cX11_eats 88 = .ok (.getfield 398, 3) := by decide +kernel
theorem dX11_eats_91 : decode cX11_eats 91 = .ok (.iload_n 1, 1) := by decide +kernel
theorem dX11_eats_92 : decode cX11_eats 92 = .ok (.iload_n 2, 1) := by decide +kernel
theorem dX11_eats_93 : decode cX11_eats 93 = .ok (.iastore, 1) := by decide +kernel
theorem dX11_eats_94 : decode cX11_eats 94 = .ok (.aload_n 0, 1) := by decide +kernel
theorem dX11_eats_95 : decode cX11_eats 95 = .ok (.getfield 70, 3) := by decide +kernel
theorem dX11_eats_98 : decode cX11_eats 98 = .ok (.getfield 401, 3) := by decide +kernel
theorem dX11_eats_101 : decode cX11_eats 101 = .ok (.iload_n 1, 1) := by decide +kernel
theorem dX11_eats_102 : decode cX11_eats 102 = .ok (.iload_n 3, 1) := by decide +kernel
theorem dX11_eats_103 : decode cX11_eats 103 = .ok (.iastore, 1) := by decide +kernel
theorem dX11_eats_104 : decode cX11_eats 104 = .ok (.aload_n 0, 1) := by decide +kernel
theorem dX11_eats_105 : decode cX11_eats 105 = .ok (.getfield 70, 3) := by decide +kernel
theorem dX11_eats_108 : decode cX11_eats 108 = .ok (.getfield 404, 3) := by decide +kernel
theorem dX11_eats_111 : decode cX11_eats 111 = .ok (.iload_n 1, 1) := by decide +kernel
theorem dX11_eats_112 : decode cX11_eats 112 = .ok (.iload 4, 2) := by decide +kernel
theorem dX11_eats_114 : decode cX11_eats 114 = .ok (.iastore, 1) := by decide +kernel
theorem dX11_eats_115 : decode cX11_eats 115 = .ok (.iconst 1, 1) := by decide +kernel
theorem dX11_eats_116 : decode cX11_eats 116 = .ok (.ireturn, 1) := by decide +kernel
theorem dX11_days_0 : decode cX11_days 0 = .ok (.iload_n 1, 1) := by decide +kernel
theorem dX11_days_1 : decode cX11_days 1 = .ok (.iconst 0, 1) := by decide +kernel
theorem dX11_days_2 : decode cX11_days 2 = .ok (.sipush 400, 3) := by decide +kernel
theorem dX11_days_5 : decode cX11_days 5 = .ok (.invokestatic 81, 3) := by decide +kernel
theorem dX11_days_8 : decode cX11_days 8 = .ok (.ifCond .ne 5, 3) := by decide +kernel
theorem dX11_days_11 : decode cX11_days 11 = .ok (.iconst (-1), 1) := by decide +kernel
theorem dX11_days_12 : decode cX11_days 12 = .ok (.ireturn, 1) := by decide +kernel
theorem dX11_days_13 : decode cX11_days 13 = .ok (.iconst 0, 1) := by decide +kernel
theorem dX11_days_14 : decode cX11_days 14 = .ok (.istore_n 2, 1) := by decide +kernel
theorem dX11_days_15 : decode cX11_days 15 = .ok (.iload_n 2, 1) := by decide +kernel
theorem dX11_days_16 : decode cX11_days 16 = .ok (.iload_n 1, 1) := by decide +kernel
theorem dX11_days_17 : decode cX11_days 17 = .ok (.if_icmp .ge 17, 3) := by decide +kernel
theorem dX11_days_20 : decode cX11_days 20 = .ok (.aload_n 0, 1) := by decide +kernel
theorem dX11_days_21 : decode cX11_days 21 = .ok (.getfield 70, 3) := by decide +kernel
theorem dX11_days_24 : decode cX11_days 24 = .ok (.invokevirtual 246, 3) := by decide +kernel
theorem dX11_days_27 : decode cX11_days 27 = .ok (.pop, 1) := by decide +kernel
theorem dX11_days_28 : decode cX11_days 28 = .ok (.iinc 2 1, 3) := by decide +kernel
theorem dX11_days_31 : decode cX11_days 31 = .ok (.goto (-16), 3) := by decide +kernel
theorem dX11_days_34 : decode cX11_days 34 = .ok (.aload_n 0, 1) := by decide +kernel
theorem dX11_days_35 : decode cX11_days 35 = .ok (.getfield 70, 3) := by decide +kernel
theorem dX11_days_38 : decode cX11_days 38 = .ok (.invokevirtual 407, 3) := by decide +kernel
theorem dX11_days_41 : decode cX11_days 41 = .ok (.ireturn, 1) := by decide +kernel
theorem dX11_lasts_0 : decode cX11_lasts 0 = .ok (.iload_n 1, 1) := by decide +kernel
theorem dX11_lasts_1 : decode cX11_lasts 1 = .ok (.invokestatic 142, 3) := by decide +kernel
theorem dX11_lasts_4 : decode cX11_lasts 4 = .ok (.ifCond .eq 14, 3) := by decide +kernel
theorem dX11_lasts_7 : decode cX11_lasts 7 = .ok (.aload_n 0, 1) := by decide +kernel
theorem dX11_lasts_8 : decode cX11_lasts 8 = .ok (.getfield 70, 3) := by decide +kernel
theorem dX11_lasts_11 : decode cX11_lasts 11 = .ok (.iload_n 1, 1) := by decide +kernel
theorem dX11_lasts_12 : decode cX11_lasts 12 = .ok (.invokevirtual 410, 3) := by decide +kernel
theorem dX11_lasts_15 : decode cX11_lasts 15 = .ok (.goto 4, 3) := by decide +kernel
theorem dX11_lasts_18 : decode cX11_lasts 18 = .ok (.iconst (-1), 1) := by decide +kernel
theorem dX11_lasts_19 : decode cX11_lasts 19 = .ok (.ireturn, 1) := by decide +kernel
theorem dX11_shift_0 : decode cX11_shift 0 = .ok (.iload_n 1, 1) := by decide +kernel
theorem dX11_shift_1 : decode cX11_shift 1 = .ok (.invokestatic 142, 3) := by decide +kernel
theorem dX11_shift_4 : decode cX11_shift 4 = .ok (.ifCond .ne 5, 3) := by decide +kernel
theorem dX11_shift_7 : decode cX11_shift 7 = .ok (.iconst (-1), 1) := by decide +kernel
theorem dX11_shift_8 : decode cX11_shift 8 = .ok (.ireturn, 1) := by decide +kernel
theorem dX11_shift_9 : decode cX11_shift 9 = .ok (.aload_n 0, 1) := by decide +kernel
theorem dX11_shift_10 : decode cX11_shift 10 = .ok (.getfield 70, 3) := by decide +kernel
theorem dX11_shift_13 : decode cX11_shift 13 = .ok (.iload_n 1, 1) := by decide +kernel
theorem dX11_shift_14 : decode cX11_shift 14 = .ok (.invokevirtual 413, 3) := by decide +kernel
theorem dX11_shift_17 : decode cX11_shift 17 = .ok (.ifCond .ne 6, 3) := by decide +kernel
theorem dX11_shift_20 : decode cX11_shift 20 = .ok (.bipush (-2), 2) := by decide +kernel
theorem dX11_shift_22 : decode cX11_shift 22 = .ok (.ireturn, 1) := by decide +kernel
theorem dX11_shift_23 : decode cX11_shift 23 = .ok (.aload_n 0, 1) := by decide +kernel
theorem dX11_shift_24 : decode cX11_shift 24 = .ok (.getfield 29, 3) := by decide +kernel
theorem dX11_shift_27 : decode cX11_shift 27 = .ok (.invokevirtual 207, 3) := by decide +kernel
theorem dX11_shift_30 : decode cX11_shift 30 = .ok (.aload_n 0, 1) := by decide +kernel
theorem dX11_shift_31 : decode cX11_shift 31 = .ok (.getfield 29, 3) := by decide +kernel
theorem dX11_shift_34 : decode cX11_shift 34 = .ok (.aload_n 0, 1) := by decide +kernel
theorem dX11_shift_35 : decode cX11_shift 35 = .ok (.getfield 70, 3) := by decide +kernel
theorem dX11_shift_38 : decode cX11_shift 38 = .ok (.getfield 416, 3) := by decide +kernel
theorem dX11_shift_41 : decode cX11_shift 41 = .ok (.invokevirtual 210, 3) := by decide +kernel
theorem dX11_shift_44 : decode cX11_shift 44 = .ok (.aload_n 0, 1) := by decide +kernel
theorem dX11_shift_45 : decode cX11_shift 45 = .ok (.getfield 29, 3) := by decide +kernel
theorem dX11_shift_48 : decode cX11_shift 48 = .ok (.aload_n 0, 1) := by decide +kernel
theorem dX11_shift_49 : decode cX11_shift 49 = .ok (.getfield 70, 3) := by decide +kernel
theorem dX11_shift_52 : decode cX11_shift 52 = .ok (.getfield 419, 3) := by decide +kernel
theorem dX11_shift_55 : decode cX11_shift 55 = .ok (.invokevirtual 210, 3) := by decide +kernel
theorem dX11_shift_58 : decode cX11_shift 58 = .ok (.aload_n 0, 1) := by decide +kernel
theorem dX11_shift_59 : decode cX11_shift 59 = .ok (.getfield 70, 3) := by decide +kernel
theorem dX11_shift_62 : decode cX11_shift 62 = .ok (.getfield 422, 3) := by decide +kernel
theorem dX11_shift_65 : decode cX11_shift 65 = .ok (.sipush 400, 3) := by decide +kernel
theorem dX11_shift_68 : decode cX11_shift 68 = .ok (.if_icmp .le 7, 3) := by decide +kernel
theorem dX11_shift_71 : decode cX11_shift 71 = .ok (.iconst (-1), 1) := by decide +kernel
theorem dX11_shift_72 : decode cX11_shift 72 = .ok (.goto 10, 3) := by decide +kernel
theorem dX11_shift_75 : decode cX11_shift 75 = .ok (.aload_n 0, 1) := by decide +kernel
theorem dX11_shift_76 : decode cX11_shift 76 = .ok (.getfield 70, 3) := by decide +kernel
theorem dX11_shift_79 : decode cX11_shift 79 = .ok (.getfield 422, 3) := by decide +kernel
theorem dX11_shift_82 : decode cX11_shift 82 = .ok (.ireturn, 1) := by decide +kernel
theorem dX11_ground_0 : decode cX11_ground 0 = .ok (.iload_n 1, 1) := by decide +kernel
theorem dX11_ground_1 : decode cX11_ground 1 = .ok (.invokestatic 142, 3) := by decide +kernel
theorem dX11_ground_4 : decode cX11_ground 4 = .ok (.ifCond .eq 14, 3) := by decide +kernel
theorem dX11_ground_7 : decode cX11_ground 7 = .ok (.iload_n 2, 1) := by decide +kernel
theorem dX11_ground_8 : decode cX11_ground 8 = .ok (.iconst 0, 1) := by decide +kernel
theorem dX11_ground_9 : decode cX11_ground 9 = .ok (.sipush 999, 3) := by decide +kernel
theorem dX11_ground_12 : decode cX11_ground 12 = .ok (.invokestatic 81, 3) := by decide +kernel
theorem dX11_ground_15 : decode cX11_ground 15 = .ok (.ifCond .ne 5, 3) := by decide +kernel
theorem dX11_ground_18 : decode cX11_ground 18 = .ok (.iconst (-1), 1) := by decide +kernel
theorem dX11_ground_19 : decode cX11_ground 19 = .ok (.ireturn, 1) := by decide +kernel
theorem dX11_ground_20 : decode cX11_ground 20 = .ok (.iconst 0, 1) := by decide +kernel
theorem dX11_ground_21 : decode cX11_ground 21 = .ok (.aload_n 0, 1) := by decide +kernel
theorem dX11_ground_22 : decode cX11_ground 22 = .ok (.getfield 10, 3) := by decide +kernel
theorem dX11_ground_25 : decode cX11_ground 25 = .ok (.iload_n 1, 1) := by decide +kernel
theorem dX11_ground_26 : decode cX11_ground 26 = .ok (.invokevirtual 174, 3) := by decide +kernel
theorem dX11_ground_29 : decode cX11_ground 29 = .ok (.iload_n 2, 1) := by decide +kernel
theorem dX11_ground_30 : decode cX11_ground 30 = .ok (.iadd, 1) := by decide +kernel
theorem dX11_ground_31 : decode cX11_ground 31 = .ok (.iconst 1, 1) := by decide +kernel
theorem dX11_ground_32 : decode cX11_ground 32 = .ok (.iadd, 1) := by decide +kernel
theorem dX11_ground_33 : decode cX11_ground 33 = .ok (.invokestatic 425, 3) := by decide +kernel
theorem dX11_ground_36 : decode cX11_ground 36 = .ok (.istore_n 3, 1) := by decide +kernel
theorem dX11_ground_37 : decode cX11_ground 37 = .ok (.iload_n 3, 1) := by decide +kernel
theorem dX11_ground_38 : decode cX11_ground 38 = .ok (.aload_n 0, 1) := by decide +kernel
theorem dX11_ground_39 : decode cX11_ground 39 = .ok (.getfield 20, 3) := by decide +kernel
theorem dX11_ground_42 : decode cX11_ground 42 = .ok (.invokevirtual 427, 3) := by decide +kernel
theorem dX11_ground_45 : decode cX11_ground 45 = .ok (.if_icmp .le 6, 3) := by decide +kernel
theorem dX11_ground_48 : decode cX11_ground 48 = .ok (.bipush (-2), 2) := by decide +kernel
theorem dX11_ground_50 : decode cX11_ground 50 = .ok (.ireturn, 1) := by decide +kernel
theorem dX11_ground_51 : decode cX11_ground 51 = .ok (.aload_n 0, 1) := by decide +kernel
theorem dX11_ground_52 : decode cX11_ground 52 = .ok (.getfield 20, 3) := by decide +kernel
theorem dX11_ground_55 : decode cX11_ground 55 = .ok (.invokevirtual 243, 3) := by decide +kernel
theorem dX11_ground_58 : decode cX11_ground 58 = .ok (.aload_n 0, 1) := by decide +kernel
theorem dX11_ground_59 : decode cX11_ground 59 = .ok (.getfield 20, 3) := by decide +kernel
theorem dX11_ground_62 : decode cX11_ground 62 = .ok (.iload_n 3, 1) := by decide +kernel
theorem dX11_ground_63 : decode cX11_ground 63 = .ok (.invokevirtual 430, 3) := by decide +kernel
theorem dX11_ground_66 : decode cX11_ground 66 = .ok (.aload_n 0, 1) := by decide +kernel
theorem dX11_ground_67 : decode cX11_ground 67 = .ok (.getfield 29, 3) := by decide +kernel
theorem dX11_ground_70 : decode cX11_ground 70 = .ok (.invokevirtual 207, 3) := by decide +kernel
theorem dX11_ground_73 : decode cX11_ground 73 = .ok (.iconst 0, 1) := by decide +kernel
theorem dX11_ground_74 : decode cX11_ground 74 = .ok (.istore 4, 2) := by decide +kernel
theorem dX11_ground_76 : decode cX11_ground 76 = .ok (.iload 4, 2) := by decide +kernel
theorem dX11_ground_78 : decode cX11_ground 78 = .ok (.aload_n 0, 1) := by decide +kernel
theorem dX11_ground_79 : decode cX11_ground 79 = .ok (.getfield 20, 3) := by decide +kernel
theorem dX11_ground_82 : decode cX11_ground 82 = .ok (.getfield 104, 3) := by decide +kernel
theorem dX11_ground_85 : decode cX11_ground 85 = .ok (.if_icmp .ge 39, 3) := by decide +kernel
theorem dX11_ground_88 : decode cX11_ground 88 = .ok (.aload_n 0, 1) := by decide +kernel
theorem dX11_ground_89 : decode cX11_ground 89 = .ok (.getfield 20, 3) := by decide +kernel
theorem dX11_ground_92 : decode cX11_ground 92 = .ok (.getfield 161, 3) := by decide +kernel
theorem dX11_ground_95 : decode cX11_ground 95 = .ok (.iload 4, 2) := by decide +kernel
theorem dX11_ground_97 : decode cX11_ground 97 = .ok (.iaload, 1) := by decide +kernel
theorem dX11_ground_98 : decode cX11_ground 98 = .ok (.ifCond .ne 20, 3) := by decide +kernel
theorem dX11_ground_101 : decode cX11_ground 101 = .ok (.aload_n 0, 1) := by decide +kernel
theorem dX11_ground_102 : decode cX11_ground 102 = .ok (.getfield 29, 3) := by decide +kernel
theorem dX11_ground_105 : decode cX11_ground 105 = .ok (.aload_n 0, 1) := by decide +kernel
theorem dX11_ground_106 : decode cX11_ground 106 = .ok (.getfield 20, 3) := by decide +kernel
theorem dX11_ground_109 : decode cX11_ground 109 = .ok (.getfield 98, 3) := by decide +kernel
theorem dX11_ground_112 : decode cX11_ground 112 = .ok (.iload 4, 2) := by decide +kernel
theorem dX11_ground_114 : decode cX11_ground 114 = .ok (.iaload, 1) := by decide +kernel
theorem dX11_ground_115 : decode cX11_ground 115 = .ok (.invokevirtual 210, 3) := by decide +kernel
theorem dX11_ground_118 : decode cX11_ground 118 = .ok (.iinc 4 1, 3) := by decide +kernel
theorem dX11_ground_121 : decode cX11_ground 121 = .ok (.goto (-45), 3) := by decide +kernel
theorem dX11_ground_124 : decode cX11_ground 124 = .ok (.aload_n 0, 1) := by decide +kernel
theorem dX11_ground_125 : decode cX11_ground 125 = .ok (.getfield 20, 3) := by decide +kernel
theorem dX11_ground_128 : decode cX11_ground 128 = .ok (.invokevirtual 249, 3) := by decide +kernel
theorem dX11_ground_131 : decode cX11_ground 131 = .ok (.iload_n 3, 1) := by decide +kernel
theorem dX11_ground_132 : decode cX11_ground 132 = .ok (.ireturn, 1) := by decide +kernel
theorem dX11_ice_0 : decode cX11_ice 0 = .ok (.iload_n 1, 1) := by decide +kernel
theorem dX11_ice_1 : decode cX11_ice 1 = .ok (.invokestatic 142, 3) := by decide +kernel
theorem dX11_ice_4 : decode cX11_ice 4 = .ok (.ifCond .eq 18, 3) := by decide +kernel
theorem dX11_ice_7 : decode cX11_ice 7 = .ok (.iload_n 2, 1) := by decide +kernel
theorem dX11_ice_8 : decode cX11_ice 8 = .ok (.iconst 1, 1) := by decide +kernel
theorem dX11_ice_9 : decode cX11_ice 9 = .ok (.bipush 20, 2) := by decide +kernel
theorem dX11_ice_11 : decode cX11_ice 11 = .ok (.invokestatic 81, 3) := by decide +kernel
theorem dX11_ice_14 : decode cX11_ice 14 = .ok (.ifCond .eq 8, 3) := by decide +kernel
theorem dX11_ice_17 : decode cX11_ice 17 = .ok (.iload_n 1, 1) := by decide +kernel
theorem dX11_ice_18 : decode cX11_ice 18 = .ok (.iload_n 2, 1) := by decide +kernel
theorem dX11_ice_19 : decode cX11_ice 19 = .ok (.if_icmp .gt 5, 3) := by decide +kernel
theorem dX11_ice_22 : decode cX11_ice 22 = .ok (.iconst (-1), 1) := by decide +kernel
theorem dX11_ice_23 : decode cX11_ice 23 = .ok (.ireturn, 1) := by decide +kernel
theorem dX11_ice_24 : decode cX11_ice 24 = .ok (.aload_n 0, 1) := by decide +kernel
theorem dX11_ice_25 : decode cX11_ice 25 = .ok (.getfield 56, 3) := by decide +kernel
theorem dX11_ice_28 : decode cX11_ice 28 = .ok (.iload_n 1, 1) := by decide +kernel
theorem dX11_ice_29 : decode cX11_ice 29 = .ok (.aload_n 0, 1) := by decide +kernel
theorem dX11_ice_30 : decode cX11_ice 30 = .ok (.getfield 10, 3) := by decide +kernel
theorem dX11_ice_33 : decode cX11_ice 33 = .ok (.invokevirtual 180, 3) := by decide +kernel
theorem dX11_ice_36 : decode cX11_ice 36 = .ok (.invokestatic 336, 3) := by decide +kernel
theorem dX11_ice_39 : decode cX11_ice 39 = .ok (.invokevirtual 339, 3) := by decide +kernel
theorem dX11_ice_42 : decode cX11_ice 42 = .ok (.iconst 0, 1) := by decide +kernel
theorem dX11_ice_43 : decode cX11_ice 43 = .ok (.istore_n 3, 1) := by decide +kernel
theorem dX11_ice_44 : decode cX11_ice 44 = .ok (.aload_n 0, 1) := by decide +kernel
theorem dX11_ice_45 : decode cX11_ice 45 = .ok (.getfield 56, 3) := by decide +kernel
theorem dX11_ice_48 : decode cX11_ice 48 = .ok (.getfield 345, 3) := by decide +kernel
theorem dX11_ice_51 : decode cX11_ice 51 = .ok (.iload_n 2, 1) := by decide +kernel
theorem dX11_ice_52 : decode cX11_ice 52 = .ok (.bipush 10, 2) := by decide +kernel
theorem dX11_ice_54 : decode cX11_ice 54 = .ok (.imul, 1) := by decide +kernel
theorem dX11_ice_55 : decode cX11_ice 55 = .ok (.if_icmp .le 23, 3) := by decide +kernel
theorem dX11_ice_58 : decode cX11_ice 58 = .ok (.iload_n 3, 1) := by decide +kernel
theorem dX11_ice_59 : decode cX11_ice 59 = .ok (.sipush 600, 3) := by decide +kernel
theorem dX11_ice_62 : decode cX11_ice 62 = .ok (.if_icmp .ge 16, 3) := by decide +kernel
theorem dX11_ice_65 : decode cX11_ice 65 = .ok (.aload_n 0, 1) := by decide +kernel
theorem dX11_ice_66 : decode cX11_ice 66 = .ok (.getfield 56, 3) := by decide +kernel
theorem dX11_ice_69 : decode cX11_ice 69 = .ok (.invokevirtual 342, 3) := by decide +kernel
theorem dX11_ice_72 : decode cX11_ice 72 = .ok (.iinc 3 1, 3) := by decide +kernel
theorem dX11_ice_75 : decode cX11_ice 75 = .ok (.goto (-31), 3) := by decide +kernel
theorem dX11_ice_78 : decode cX11_ice 78 = .ok (.aload_n 0, 1) := by decide +kernel
theorem dX11_ice_79 : decode cX11_ice 79 = .ok (.getfield 56, 3) := by decide +kernel
theorem dX11_ice_82 : decode cX11_ice 82 = .ok (.getfield 345, 3) := by decide +kernel
theorem dX11_ice_85 : decode cX11_ice 85 = .ok (.iload_n 2, 1) := by decide +kernel
theorem dX11_ice_86 : decode cX11_ice 86 = .ok (.bipush 10, 2) := by decide +kernel
theorem dX11_ice_88 : decode cX11_ice 88 = .ok (.imul, 1) := by decide +kernel
theorem dX11_ice_89 : decode cX11_ice 89 = .ok (.if_icmp .gt 7, 3) := by decide +kernel
theorem dX11_ice_92 : decode cX11_ice 92 = .ok (.iconst 1, 1) := by decide +kernel
theorem dX11_ice_93 : decode cX11_ice 93 = .ok (.goto 4, 3) := by decide +kernel
theorem dX11_ice_96 : decode cX11_ice 96 = .ok (.iconst 0, 1) := by decide +kernel
theorem dX11_ice_97 : decode cX11_ice 97 = .ok (.istore 4, 2) := by decide +kernel
theorem dX11_ice_99 : decode cX11_ice 99 = .ok (.iload 4, 2) := by decide +kernel
theorem dX11_ice_101 : decode cX11_ice 101 = .ok (.ifCond .eq 27, 3) := by decide +kernel
theorem dX11_ice_104 : decode cX11_ice 104 = .ok (.aload_n 0, 1) := by decide +kernel
theorem dX11_ice_105 : decode cX11_ice 105 = .ok (.getfield 56, 3) := by decide +kernel
theorem dX11_ice_108 : decode cX11_ice 108 = .ok (.getfield 348, 3) := by decide +kernel
theorem dX11_ice_111 : decode cX11_ice 111 = .ok (.invokestatic 204, 3) := by decide +kernel
theorem dX11_ice_114 : decode cX11_ice 114 = .ok (.aload_n 0, 1) := by decide +kernel
theorem dX11_ice_115 : decode cX11_ice 115 = .ok (.getfield 10, 3) := by decide +kernel
theorem dX11_ice_118 : decode cX11_ice 118 = .ok (.invokevirtual 194, 3) := by decide +kernel
theorem dX11_ice_121 : decode cX11_ice 121 = .ok (.imul, 1) := by decide +kernel
theorem dX11_ice_122 : decode cX11_ice 122 = .ok (.bipush 100, 2) := by decide +kernel
theorem dX11_ice_124 : decode cX11_ice 124 = .ok (.idiv, 1) := by decide +kernel
theorem dX11_ice_125 : decode cX11_ice 125 = .ok (.goto 4, 3) := by decide +kernel
theorem dX11_ice_128 : decode cX11_ice 128 = .ok (.iconst 0, 1) := by decide +kernel
theorem dX11_ice_129 : decode cX11_ice 129 = .ok (.istore 5, 2) := by decide +kernel
theorem dX11_ice_131 : decode cX11_ice 131 = .ok (.aload_n 0, 1) := by decide +kernel
theorem dX11_ice_132 : decode cX11_ice 132 = .ok (.getfield 29, 3) := by decide +kernel
theorem dX11_ice_135 : decode cX11_ice 135 = .ok (.invokevirtual 207, 3) := by decide +kernel
theorem dX11_ice_138 : decode cX11_ice 138 = .ok (.aload_n 0, 1) := by decide +kernel
theorem dX11_ice_139 : decode cX11_ice 139 = .ok (.getfield 29, 3) := by decide +kernel
theorem dX11_ice_142 : decode cX11_ice 142 = .ok (.iload 4, 2) := by decide +kernel
theorem dX11_ice_144 : decode cX11_ice 144 = .ok (.ifCond .eq 7, 3) := by decide +kernel
theorem dX11_ice_147 : decode cX11_ice 147 = .ok (.iload_n 3, 1) := by decide +kernel
theorem dX11_ice_148 : decode cX11_ice 148 = .ok (.goto 4, 3) := by decide +kernel
theorem dX11_ice_151 : decode cX11_ice 151 = .ok (.iconst (-1), 1) := by decide +kernel
theorem dX11_ice_152 : decode cX11_ice 152 = .ok (.invokevirtual 210, 3) := by decide +kernel
theorem dX11_ice_155 : decode cX11_ice 155 = .ok (.aload_n 0, 1) := by decide +kernel
theorem dX11_ice_156 : decode cX11_ice 156 = .ok (.getfield 29, 3) := by decide +kernel
theorem dX11_ice_159 : decode cX11_ice 159 = .ok (.iload 5, 2) := by decide +kernel
theorem dX11_ice_161 : decode cX11_ice 161 = .ok (.invokevirtual 210, 3) := by decide +kernel
theorem dX11_ice_164 : decode cX11_ice 164 = .ok (.iload 4, 2) := by decide +kernel
theorem dX11_ice_166 : decode cX11_ice 166 = .ok (.ifCond .eq 16, 3) := by decide +kernel
theorem dX11_ice_169 : decode cX11_ice 169 = .ok (.iload 5, 2) := by decide +kernel
theorem dX11_ice_171 : decode cX11_ice 171 = .ok (.bipush 50, 2) := by decide +kernel
theorem dX11_ice_173 : decode cX11_ice 173 = .ok (.iload_n 2, 1) := by decide +kernel
theorem dX11_ice_174 : decode cX11_ice 174 = .ok (.imul, 1) := by decide +kernel
theorem dX11_ice_175 : decode cX11_ice 175 = .ok (.if_icmp .lt 7, 3) := by decide +kernel
theorem dX11_ice_178 : decode cX11_ice 178 = .ok (.iconst 1, 1) := by decide +kernel
theorem dX11_ice_179 : decode cX11_ice 179 = .ok (.goto 4, 3) := by decide +kernel
theorem dX11_ice_182 : decode cX11_ice 182 = .ok (.iconst 0, 1) := by decide +kernel
theorem dX11_ice_183 : decode cX11_ice 183 = .ok (.ireturn, 1) := by decide +kernel
theorem dX11_keep_0 : decode cX11_keep 0 = .ok (.iload_n 1, 1) := by decide +kernel
theorem dX11_keep_1 : decode cX11_keep 1 = .ok (.iconst 0, 1) := by decide +kernel
theorem dX11_keep_2 : decode cX11_keep 2 = .ok (.iconst 2, 1) := by decide +kernel
theorem dX11_keep_3 : decode cX11_keep 3 = .ok (.invokestatic 81, 3) := by decide +kernel
theorem dX11_keep_6 : decode cX11_keep 6 = .ok (.ifCond .ne 5, 3) := by decide +kernel
theorem dX11_keep_9 : decode cX11_keep 9 = .ok (.iconst 0, 1) := by decide +kernel
theorem dX11_keep_10 : decode cX11_keep 10 = .ok (.ireturn, 1) := by decide +kernel
theorem dX11_keep_11 : decode cX11_keep 11 = .ok (.aload_n 0, 1) := by decide +kernel
theorem dX11_keep_12 : decode cX11_keep 12 = .ok (.getfield 10, 3) := by decide +kernel
theorem dX11_keep_15 : decode cX11_keep 15 = .ok (.iload_n 1, 1) := by decide +kernel
theorem dX11_keep_16 : decode cX11_keep 16 = .ok (.invokevirtual 433, 3) := by decide +kernel
theorem dX11_keep_19 : decode cX11_keep 19 = .ok (.iconst 1, 1) := by decide +kernel
theorem dX11_keep_20 : decode cX11_keep 20 = .ok (.ireturn, 1) := by decide +kernel
theorem dX11_again_0 : decode cX11_again 0 = .ok (.iload_n 1, 1) := by decide +kernel
theorem dX11_again_1 : decode cX11_again 1 = .ok (.iconst 0, 1) := by decide +kernel
theorem dX11_again_2 : decode cX11_again 2 = .ok (.iconst 2, 1) := by decide +kernel
theorem dX11_again_3 : decode cX11_again 3 = .ok (.invokestatic 81, 3) := by decide +kernel
theorem dX11_again_6 : decode cX11_again 6 = .ok (.ifCond .eq 16, 3) := by decide +kernel
theorem dX11_again_9 : decode cX11_again 9 = .ok (.aload_n 0, 1) := by decide +kernel
theorem dX11_again_10 : decode cX11_again 10 = .ok (.getfield 10, 3) := by decide +kernel
theorem dX11_again_13 : decode cX11_again 13 = .ok (.getfield 436, 3) := by decide +kernel
theorem dX11_again_16 : decode cX11_again 16 = .ok (.iload_n 1, 1) := by decide +kernel
theorem dX11_again_17 : decode cX11_again 17 = .ok (.iaload, 1) := by decide +kernel
theorem dX11_again_18 : decode cX11_again 18 = .ok (.iconst (-1), 1) := by decide +kernel
theorem dX11_again_19 : decode cX11_again 19 = .ok (.if_icmp .ne 5, 3) := by decide +kernel
theorem dX11_again_22 : decode cX11_again 22 = .ok (.iconst 0, 1) := by decide +kernel
theorem dX11_again_23 : decode cX11_again 23 = .ok (.ireturn, 1) := by decide +kernel
theorem dX11_again_24 : decode cX11_again 24 = .ok (.aload_n 0, 1) := by decide +kernel
theorem dX11_again_25 : decode cX11_again 25 = .ok (.getfield 10, 3) := by decide +kernel
theorem dX11_again_28 : decode cX11_again 28 = .ok (.iload_n 1, 1) := by decide +kernel
theorem dX11_again_29 : decode cX11_again 29 = .ok (.invokevirtual 439, 3) := by decide +kernel
theorem dX11_again_32 : decode cX11_again 32 = .ok (.iconst 1, 1) := by decide +kernel
theorem dX11_again_33 : decode cX11_again 33 = .ok (.ireturn, 1) := by decide +kernel
theorem dX11_seed_0 : decode cX11_seed 0 = .ok (.aload_n 0, 1) := by decide +kernel
theorem dX11_seed_1 : decode cX11_seed 1 = .ok (.getfield 10, 3) := by decide +kernel
theorem dX11_seed_4 : decode cX11_seed 4 = .ok (.getfield 442, 3) := by decide +kernel
theorem dX11_seed_7 : decode cX11_seed 7 = .ok (.istore_n 2, 1) := by decide +kernel
theorem dX11_seed_8 : decode cX11_seed 8 = .ok (.aload_n 0, 1) := by decide +kernel
theorem dX11_seed_9 : decode cX11_seed 9 = .ok (.getfield 10, 3) := by decide +kernel
theorem dX11_seed_12 : decode cX11_seed 12 = .ok (.iload_n 1, 1) := by decide +kernel
theorem dX11_seed_13 : decode cX11_seed 13 = .ok (.putfield 442, 3) := by decide +kernel
theorem dX11_seed_16 : decode cX11_seed 16 = .ok (.iload_n 2, 1) := by decide +kernel
theorem dX11_seed_17 : decode cX11_seed 17 = .ok (.ireturn, 1) := by decide +kernel
theorem dX11_lie_0 : decode cX11_lie 0 = .ok (.aload_n 0, 1) := by decide +kernel
theorem dX11_lie_1 : decode cX11_lie 1 = .ok (.getfield 20, 3) := by decide +kernel
theorem dX11_lie_4 : decode cX11_lie 4 = .ok (.invokevirtual 445, 3) := by decide +kernel
theorem dX11_lie_7 : decode cX11_lie 7 = .ok (.istore_n 1, 1) := by decide +kernel
theorem dX11_lie_8 : decode cX11_lie 8 = .ok (.iload_n 1, 1) := by decide +kernel
theorem dX11_lie_9 : decode cX11_lie 9 = .ok (.ifCond .ne 6, 3) := by decide +kernel
theorem dX11_lie_12 : decode cX11_lie 12 = .ok (.bipush (-2), 2) := by decide +kernel
theorem dX11_lie_14 : decode cX11_lie 14 = .ok (.ireturn, 1) := by decide +kernel
theorem dX11_lie_15 : decode cX11_lie 15 = .ok (.aload_n 0, 1) := by decide +kernel
theorem dX11_lie_16 : decode cX11_lie 16 = .ok (.getfield 20, 3) := by decide +kernel
theorem dX11_lie_19 : decode cX11_lie 19 = .ok (.aload_n 0, 1) := by decide +kernel
theorem dX11_lie_20 : decode cX11_lie 20 = .ok (.getfield 10, 3) := by decide +kernel
theorem dX11_lie_23 : decode cX11_lie 23 = .ok (.iload_n 1, 1) := by decide +kernel
theorem dX11_lie_24 : decode cX11_lie 24 = .ok (.invokevirtual 448, 3) := by decide +kernel
theorem dX11_lie_27 : decode cX11_lie 27 = .ok (.invokevirtual 451, 3) := by decide +kernel
theorem dX11_lie_30 : decode cX11_lie 30 = .ok (.istore_n 2, 1) := by decide +kernel
theorem dX11_lie_31 : decode cX11_lie 31 = .ok (.aload_n 0, 1) := by decide +kernel
theorem dX11_lie_32 : decode cX11_lie 32 = .ok (.getfield 20, 3) := by decide +kernel
theorem dX11_lie_35 : decode cX11_lie 35 = .ok (.iload_n 2, 1) := by decide +kernel
theorem dX11_lie_36 : decode cX11_lie 36 = .ok (.invokevirtual 91, 3) := by decide +kernel
theorem dX11_lie_39 : decode cX11_lie 39 = .ok (.ifCond .ne 6, 3) := by decide +kernel
theorem dX11_lie_42 : decode cX11_lie 42 = .ok (.bipush (-2), 2) := by decide +kernel
theorem dX11_lie_44 : decode cX11_lie 44 = .ok (.ireturn, 1) := by decide +kernel
theorem dX11_lie_45 : decode cX11_lie 45 = .ok (.aload_n 0, 1) := by decide +kernel
theorem dX11_lie_46 : decode cX11_lie 46 = .ok (.getfield 20, 3) := by decide +kernel
theorem dX11_lie_49 : decode cX11_lie 49 = .ok (.getfield 98, 3) := by decide +kernel
theorem dX11_lie_52 : decode cX11_lie 52 = .ok (.iload_n 2, 1) := by decide +kernel
theorem dX11_lie_53 : decode cX11_lie 53 = .ok (.aload_n 0, 1) := by decide +kernel
theorem dX11_lie_54 : decode cX11_lie 54 = .ok (.getfield 10, 3) := by decide +kernel
theorem dX11_lie_57 : decode cX11_lie 57 = .ok (.aload_n 0, 1) := by decide +kernel
theorem dX11_lie_58 : decode cX11_lie 58 = .ok (.getfield 20, 3) := by decide +kernel
theorem dX11_lie_61 : decode cX11_lie 61 = .ok (.getfield 95, 3) := by decide +kernel
theorem dX11_lie_64 : decode cX11_lie 64 = .ok (.iload_n 2, 1) := by decide +kernel
theorem dX11_lie_65 : decode cX11_lie 65 = .ok (.iaload, 1) := by decide +kernel
theorem dX11_lie_66 : decode cX11_lie 66 = .ok (.iconst 1, 1) := by decide +kernel
theorem dX11_lie_67 : decode cX11_lie 67 = .ok (.iadd, 1) := by decide +kernel
theorem dX11_lie_68 : decode cX11_lie 68 = .ok (.invokevirtual 448, 3) := by decide +kernel
theorem dX11_lie_71 : decode cX11_lie 71 = .ok (.iastore, 1) := by decide +kernel
theorem dX11_lie_72 : decode cX11_lie 72 = .ok (.iload_n 2, 1) := by decide +kernel
theorem dX11_lie_73 : decode cX11_lie 73 = .ok (.ireturn, 1) := by decide +kernel
theorem dX11_count_0 : decode cX11_count 0 = .ok (.iload_n 1, 1) := by decide +kernel
theorem dX11_count_1 : decode cX11_count 1 = .ok (.tableswitch 132 0 9 #[55, 63, 71, 79, 87, 95, 103, 111, 119, 127], 55) := by decide +kernel
theorem dX11_count_56 : decode cX11_count 56 = .ok (.aload_n 0, 1) := by decide +kernel
theorem dX11_count_57 : decode cX11_count 57 = .ok (.getfield 20, 3) := by decide +kernel
theorem dX11_count_60 : decode cX11_count 60 = .ok (.getfield 104, 3) := by decide +kernel
theorem dX11_count_63 : decode cX11_count 63 = .ok (.ireturn, 1) := by decide +kernel
theorem dX11_count_64 : decode cX11_count 64 = .ok (.aload_n 0, 1) := by decide +kernel
theorem dX11_count_65 : decode cX11_count 65 = .ok (.getfield 25, 3) := by decide +kernel
theorem dX11_count_68 : decode cX11_count 68 = .ok (.getfield 148, 3) := by decide +kernel
theorem dX11_count_71 : decode cX11_count 71 = .ok (.ireturn, 1) := by decide +kernel
theorem dX11_count_72 : decode cX11_count 72 = .ok (.aload_n 0, 1) := by decide +kernel
theorem dX11_count_73 : decode cX11_count 73 = .ok (.getfield 42, 3) := by decide +kernel
theorem dX11_count_76 : decode cX11_count 76 = .ok (.getfield 220, 3) := by decide +kernel
theorem dX11_count_79 : decode cX11_count 79 = .ok (.ireturn, 1) := by decide +kernel
theorem dX11_count_80 : decode cX11_count 80 = .ok (.aload_n 0, 1) := by decide +kernel
theorem dX11_count_81 : decode cX11_count 81 = .ok (.getfield 49, 3) := by decide +kernel
theorem dX11_count_84 : decode cX11_count 84 = .ok (.getfield 454, 3) := by decide +kernel
theorem dX11_count_87 : decode cX11_count 87 = .ok (.ireturn, 1) := by decide +kernel
theorem dX11_count_88 : decode cX11_count 88 = .ok (.aload_n 0, 1) := by decide +kernel
theorem dX11_count_89 : decode cX11_count 89 = .ok (.getfield 63, 3) := by decide +kernel
theorem dX11_count_92 : decode cX11_count 92 = .ok (.getfield 354, 3) := by decide +kernel
theorem dX11_count_95 : decode cX11_count 95 = .ok (.ireturn, 1) := by decide +kernel
theorem dX11_count_96 : decode cX11_count 96 = .ok (.aload_n 0, 1) := by decide +kernel
theorem dX11_count_97 : decode cX11_count 97 = .ok (.getfield 63, 3) := by decide +kernel
theorem dX11_count_100 : decode cX11_count 100 = .ok (.getfield 455, 3) := by decide +kernel
theorem dX11_count_103 : decode cX11_count 103 = .ok (.ireturn, 1) := by decide +kernel
theorem dX11_count_104 : decode cX11_count 104 = .ok (.aload_n 0, 1) := by decide +kernel
theorem dX11_count_105 : decode cX11_count 105 = .ok (.getfield 10, 3) := by decide +kernel
theorem dX11_count_108 : decode cX11_count 108 = .ok (.getfield 379, 3) := by decide +kernel
theorem dX11_count_111 : decode cX11_count 111 = .ok (.ireturn, 1) := by decide +kernel
theorem dX11_count_112 : decode cX11_count 112 = .ok (.aload_n 0, 1) := by decide +kernel
theorem dX11_count_113 : decode cX11_count 113 = .ok (.getfield 10, 3) := by decide +kernel
theorem dX11_count_116 : decode cX11_count 116 = .ok (.getfield 240, 3) := by decide +kernel
theorem dX11_count_119 : decode cX11_count 119 = .ok (.ireturn, 1) := by decide +kernel
theorem dX11_count_120 : decode cX11_count 120 = .ok (.aload_n 0, 1) := by decide +kernel
theorem dX11_count_121 : decode cX11_count 121 = .ok (.getfield 29, 3) := by decide +kernel
theorem dX11_count_124 : decode cX11_count 124 = .ok (.getfield 288, 3) := by decide +kernel
theorem dX11_count_127 : decode cX11_count 127 = .ok (.ireturn, 1) := by decide +kernel
theorem dX11_count_128 : decode cX11_count 128 = .ok (.aload_n 0, 1) := by decide +kernel
theorem dX11_count_129 : decode cX11_count 129 = .ok (.getfield 213, 3) := by decide +kernel
theorem dX11_count_132 : decode cX11_count 132 = .ok (.ireturn, 1) := by decide +kernel
theorem dX11_count_133 : decode cX11_count 133 = .ok (.iconst (-1), 1) := by decide +kernel
theorem dX11_count_134 : decode cX11_count 134 = .ok (.ireturn, 1) := by decide +kernel
theorem dX11_row_0 : decode cX11_row 0 = .ok (.iload_n 1, 1) := by decide +kernel
theorem dX11_row_1 : decode cX11_row 1 = .ok (.iconst 0, 1) := by decide +kernel
theorem dX11_row_2 : decode cX11_row 2 = .ok (.aload_n 0, 1) := by decide +kernel
theorem dX11_row_3 : decode cX11_row 3 = .ok (.getfield 29, 3) := by decide +kernel
theorem dX11_row_6 : decode cX11_row 6 = .ok (.getfield 288, 3) := by decide +kernel
theorem dX11_row_9 : decode cX11_row 9 = .ok (.iconst 1, 1) := by decide +kernel
theorem dX11_row_10 : decode cX11_row 10 = .ok (.isub, 1) := by decide +kernel
theorem dX11_row_11 : decode cX11_row 11 = .ok (.invokestatic 81, 3) := by decide +kernel
theorem dX11_row_14 : decode cX11_row 14 = .ok (.ifCond .ne 14, 3) := by decide +kernel
theorem dX11_row_17 : decode cX11_row 17 = .ok (.new 154, 3) := by decide +kernel
theorem dX11_row_20 : decode cX11_row 20 = .ok (.dup, 1) := by decide +kernel
theorem dX11_row_21 : decode cX11_row 21 = .ok (.ldc_w 458, 3) := by decide +kernel
theorem dX11_row_24 : decode cX11_row 24 = .ok (.invokespecial 158, 3) := by decide +kernel
theorem dX11_row_27 : decode cX11_row 27 = .ok (.athrow, 1) := by decide +kernel
theorem dX11_row_28 : decode cX11_row 28 = .ok (.aload_n 0, 1) := by decide +kernel
theorem dX11_row_29 : decode cX11_row 29 = .ok (.getfield 29, 3) := by decide +kernel
theorem dX11_row_32 : decode cX11_row 32 = .ok (.getfield 460, 3) := by decide +kernel
theorem dX11_row_35 : decode cX11_row 35 = .ok (.iload_n 1, 1) := by decide +kernel
theorem dX11_row_36 : decode cX11_row 36 = .ok (.iaload, 1) := by decide +kernel
theorem dX11_row_37 : decode cX11_row 37 = .ok (.ireturn, 1) := by decide +kernel
noncomputable def fX11_load_36 (v1 : Int32) (v2 : Int32) (v3 : Int32) (v4 : Int32) (v5 : Int32) (s0 : Int32) (h : HS) : Option (Int32 × HS) := if s0 = 0 then (some ((-1 : Int32), h)) else (bd (fX11_between v4 (0 : Int32) (999 : Int32) h) (fun r12 h11 => if r12 = 0 then (some ((-1 : Int32), h11)) else (bd (fX11_between v5 (0 : Int32) v4 h11) (fun r15 h14 => if r15 = 0 then (some ((-1 : Int32), h14)) else (bd (fX4_add v1 v2 v3 v4 v5 h14) (fun r18 h17 => some (r18, h17)))))))
set_option maxRecDepth 100000 in
theorem jX11_load_36 {r : Int32} {h0 : HS} (v1 : Int32) (v2 : Int32) (v3 : Int32) (v4 : Int32) (v5 : Int32) (s0 : Int32) (h : HS) (H : fX11_load_36 v1 v2 v3 v4 v5 s0 h = some (r, h0)) : Jx skC RX11 cX11_load 7 (some .int) 2 (some (.int r)) h0 36 [some (.ref 0), some (.int v1), some (.int v2), some (.int v3), some (.int v4), some (.int v5), none] [.int s0] h := by
  unfold fX11_load_36 at H
  refine j_istore (pc := 36) (L' := [some (.ref 0), some (.int v1), some (.int v2), some (.int v3), some (.int v4), some (.int v5), some (.int s0)]) dX11_load_36 (by decide) rfl ?_
  refine j_iload (pc := 38) dX11_load_38 rfl ?_
  refine j_if_eq (pc := 40) (tgt := 66) dX11_load_40 (by decide) (fun c10 => ?_) (fun c10 => ?_)
  · rw [if_pos c10] at H
    refine j_iconst (pc := 66) (v := -1) dX11_load_66 (by decide) ?_
    exact j_ireturn (pc := 67) dX11_load_67 rfl (ri_1 H) (ri_2 H)
  · rw [if_neg c10] at H
    refine j_iload (pc := 43) dX11_load_43 rfl ?_
    refine j_iconst (pc := 45) (v := 0) dX11_load_45 (by decide) ?_
    refine j_sipush (pc := 46) (v := 999) dX11_load_46 (by decide) ?_
    obtain ⟨r12, h11, eh11, H⟩ := bd_x H
    refine j_callS (pc := 49) dX11_load_49 mlX11_81 wyX11_between (tX11_between eh11) (by decide) rfl (by simp [Value.category]) rfl ?_
    refine j_if_eq (pc := 52) (tgt := 66) dX11_load_52 (by decide) (fun c13 => ?_) (fun c13 => ?_)
    · rw [if_pos c13] at H
      refine j_iconst (pc := 66) (v := -1) dX11_load_66 (by decide) ?_
      exact j_ireturn (pc := 67) dX11_load_67 rfl (ri_1 H) (ri_2 H)
    · rw [if_neg c13] at H
      refine j_iload (pc := 55) dX11_load_55 rfl ?_
      refine j_iconst (pc := 57) (v := 0) dX11_load_57 (by decide) ?_
      refine j_iload (pc := 58) dX11_load_58 rfl ?_
      obtain ⟨r15, h14, eh14, H⟩ := bd_x H
      refine j_callS (pc := 60) dX11_load_60 mlX11_81 wyX11_between (tX11_between eh14) (by decide) rfl (by simp [Value.category]) rfl ?_
      refine j_if_ne (pc := 63) (tgt := 68) dX11_load_63 (by decide) (fun c16 => ?_) (fun c16 => ?_)
      · rw [if_neg c16] at H
        refine j_aload_n (pc := 68) dX11_load_68 rfl ?_
        refine j_getR (pc := 69) (b := 2) dX11_load_69 flX11_20 rfl ?_
        refine j_iload_n (pc := 72) dX11_load_72 rfl ?_
        refine j_iload_n (pc := 73) dX11_load_73 rfl ?_
        refine j_iload_n (pc := 74) dX11_load_74 rfl ?_
        refine j_iload (pc := 75) dX11_load_75 rfl ?_
        refine j_iload (pc := 77) dX11_load_77 rfl ?_
        obtain ⟨r18, h17, eh17, H⟩ := bd_x H
        refine j_callV (pc := 79) dX11_load_79 mlX11_85 wyX4_add (tX4_add eh17) (by decide) rfl rfl rfl rfl (by simp [Value.category]) rfl ?_
        exact j_ireturn (pc := 82) dX11_load_82 rfl (ri_1 H) (ri_2 H)
      · rw [if_pos c16] at H
        refine j_iconst (pc := 66) (v := -1) dX11_load_66 (by decide) ?_
        exact j_ireturn (pc := 67) dX11_load_67 rfl (ri_1 H) (ri_2 H)
noncomputable def fX11_load_35 (v1 : Int32) (v2 : Int32) (v3 : Int32) (v4 : Int32) (v5 : Int32) (h : HS) : Option (Int32 × HS) := fX11_load_36 v1 v2 v3 v4 v5 (0 : Int32) h
set_option maxRecDepth 100000 in
theorem jX11_load_35 {r : Int32} {h0 : HS} (v1 : Int32) (v2 : Int32) (v3 : Int32) (v4 : Int32) (v5 : Int32) (h : HS) (H : fX11_load_35 v1 v2 v3 v4 v5 h = some (r, h0)) : Jx skC RX11 cX11_load 7 (some .int) 2 (some (.int r)) h0 35 [some (.ref 0), some (.int v1), some (.int v2), some (.int v3), some (.int v4), some (.int v5), none] [] h := by
  unfold fX11_load_35 at H
  refine j_iconst (pc := 35) (v := 0) dX11_load_35 (by decide) ?_
  refine Jx.sub (L' := [some (.ref 0), some (.int v1), some (.int v2), some (.int v3), some (.int v4), some (.int v5), none]) (⟨rfl, ⟨rfl, ⟨rfl, ⟨rfl, ⟨rfl, ⟨rfl, trivial⟩⟩⟩⟩⟩⟩) ?_
  exact jX11_load_36 v1 v2 v3 v4 v5 (0 : Int32) h H
noncomputable def fX11_load (p1 : Int32) (p2 : Int32) (p3 : Int32) (p4 : Int32) (p5 : Int32) (h : HS) : Option (Int32 × HS) := bd (fX11_between p1 (0 : Int32) (3 : Int32) h) (fun r2 h1 => if r2 = 0 then (fX11_load_35 p1 p2 p3 p4 p5 h1) else (bd (fX11_between p2 (-99 : Int32) (99 : Int32) h1) (fun r5 h4 => if r5 = 0 then (fX11_load_35 p1 p2 p3 p4 p5 h4) else (bd (fX11_between p3 (-9 : Int32) (9 : Int32) h4) (fun r8 h7 => if r8 = 0 then (fX11_load_35 p1 p2 p3 p4 p5 h7) else (fX11_load_36 p1 p2 p3 p4 p5 (1 : Int32) h7))))))
set_option maxRecDepth 100000 in
theorem tX11_load {p1 : Int32} {p2 : Int32} {p3 : Int32} {p4 : Int32} {p5 : Int32} {r : Int32} {h h0 : HS} (H : fX11_load p1 p2 p3 p4 p5 h = some (r, h0)) : Cn skC yX11_load cX11_load 7 (some .int) 2 [.ref 0, .int p1, .int p2, .int p3, .int p4, .int p5] h (some (.int r)) h0 := by
  refine Cn_of (L := [some (.ref 0), some (.int p1), some (.int p2), some (.int p3), some (.int p4), some (.int p5), none]) (by decide +kernel) (by simp [lg_sl, Value.category]) (fun ad => by simp [lg_sl, tv, Value.category]) (⟨rfl, ⟨rfl, ⟨rfl, ⟨rfl, ⟨rfl, ⟨rfl, trivial⟩⟩⟩⟩⟩⟩) ?_
  unfold fX11_load at H
  refine j_iload_n (pc := 0) dX11_load_0 rfl ?_
  refine j_iconst (pc := 1) (v := 0) dX11_load_1 (by decide) ?_
  refine j_iconst (pc := 2) (v := 3) dX11_load_2 (by decide) ?_
  obtain ⟨r2, h1, eh1, H⟩ := bd_x H
  refine j_callS (pc := 3) dX11_load_3 mlX11_81 wyX11_between (tX11_between eh1) (by decide) rfl (by simp [Value.category]) rfl ?_
  refine j_if_eq (pc := 6) (tgt := 35) dX11_load_6 (by decide) (fun c3 => ?_) (fun c3 => ?_)
  · rw [if_pos c3] at H
    refine Jx.sub (L' := [some (.ref 0), some (.int p1), some (.int p2), some (.int p3), some (.int p4), some (.int p5), none]) (⟨rfl, ⟨rfl, ⟨rfl, ⟨rfl, ⟨rfl, ⟨rfl, trivial⟩⟩⟩⟩⟩⟩) ?_
    exact jX11_load_35 p1 p2 p3 p4 p5 h1 H
  · rw [if_neg c3] at H
    refine j_iload_n (pc := 9) dX11_load_9 rfl ?_
    refine j_bipush (pc := 10) (v := -99) dX11_load_10 (by decide) ?_
    refine j_bipush (pc := 12) (v := 99) dX11_load_12 (by decide) ?_
    obtain ⟨r5, h4, eh4, H⟩ := bd_x H
    refine j_callS (pc := 14) dX11_load_14 mlX11_81 wyX11_between (tX11_between eh4) (by decide) rfl (by simp [Value.category]) rfl ?_
    refine j_if_eq (pc := 17) (tgt := 35) dX11_load_17 (by decide) (fun c6 => ?_) (fun c6 => ?_)
    · rw [if_pos c6] at H
      refine Jx.sub (L' := [some (.ref 0), some (.int p1), some (.int p2), some (.int p3), some (.int p4), some (.int p5), none]) (⟨rfl, ⟨rfl, ⟨rfl, ⟨rfl, ⟨rfl, ⟨rfl, trivial⟩⟩⟩⟩⟩⟩) ?_
      exact jX11_load_35 p1 p2 p3 p4 p5 h4 H
    · rw [if_neg c6] at H
      refine j_iload_n (pc := 20) dX11_load_20 rfl ?_
      refine j_bipush (pc := 21) (v := -9) dX11_load_21 (by decide) ?_
      refine j_bipush (pc := 23) (v := 9) dX11_load_23 (by decide) ?_
      obtain ⟨r8, h7, eh7, H⟩ := bd_x H
      refine j_callS (pc := 25) dX11_load_25 mlX11_81 wyX11_between (tX11_between eh7) (by decide) rfl (by simp [Value.category]) rfl ?_
      refine j_if_eq (pc := 28) (tgt := 35) dX11_load_28 (by decide) (fun c9 => ?_) (fun c9 => ?_)
      · rw [if_pos c9] at H
        refine Jx.sub (L' := [some (.ref 0), some (.int p1), some (.int p2), some (.int p3), some (.int p4), some (.int p5), none]) (⟨rfl, ⟨rfl, ⟨rfl, ⟨rfl, ⟨rfl, ⟨rfl, trivial⟩⟩⟩⟩⟩⟩) ?_
        exact jX11_load_35 p1 p2 p3 p4 p5 h7 H
      · rw [if_neg c9] at H
        refine j_iconst (pc := 31) (v := 1) dX11_load_31 (by decide) ?_
        refine j_goto (pc := 32) (tgt := 36) dX11_load_32 (by decide) ?_
        refine Jx.sub (L' := [some (.ref 0), some (.int p1), some (.int p2), some (.int p3), some (.int p4), some (.int p5), none]) (⟨rfl, ⟨rfl, ⟨rfl, ⟨rfl, ⟨rfl, ⟨rfl, trivial⟩⟩⟩⟩⟩⟩) ?_
        exact jX11_load_36 p1 p2 p3 p4 p5 (1 : Int32) h7 H

noncomputable def fX11_fill (p1 : Int32) (p2 : Int32) (h : HS) : Option (Int32 × HS) := bd (fX4_there p1 h) (fun r2 h1 => if r2 = 0 then (some ((-1 : Int32), h1)) else (ck (inb p1 15) (bd (fX11_between p2 (0 : Int32) ((gI h1 29 p1.toNatClampNeg)) h1) (fun r6 h5 => if r6 = 0 then (some ((-1 : Int32), h5)) else (ck (inb p1 15) (nm ((gI h5 30 p1.toNatClampNeg)) (fun v3_9 => ck (inb p1 15) (nm (pI h5 30 p1.toNatClampNeg p2) (fun h10 => some (v3_9, h10))))))))))
set_option maxRecDepth 100000 in
theorem tX11_fill {p1 : Int32} {p2 : Int32} {r : Int32} {h h0 : HS} (H : fX11_fill p1 p2 h = some (r, h0)) : Cn skC yX11_fill cX11_fill 4 (some .int) 1 [.ref 0, .int p1, .int p2] h (some (.int r)) h0 := by
  refine Cn_of (L := [some (.ref 0), some (.int p1), some (.int p2), none]) (by decide +kernel) (by simp [lg_sl, Value.category]) (fun ad => by simp [lg_sl, tv, Value.category]) (⟨rfl, ⟨rfl, ⟨rfl, trivial⟩⟩⟩) ?_
  unfold fX11_fill at H
  refine j_aload_n (pc := 0) dX11_fill_0 rfl ?_
  refine j_getR (pc := 1) (b := 2) dX11_fill_1 flX11_20 rfl ?_
  refine j_iload_n (pc := 4) dX11_fill_4 rfl ?_
  obtain ⟨r2, h1, eh1, H⟩ := bd_x H
  refine j_callV (pc := 5) dX11_fill_5 mlX11_91 wyX4_there (tX4_there eh1) (by decide) rfl rfl rfl rfl (by simp [Value.category]) rfl ?_
  refine j_if_eq (pc := 8) (tgt := 28) dX11_fill_8 (by decide) (fun c3 => ?_) (fun c3 => ?_)
  · rw [if_pos c3] at H
    refine j_iconst (pc := 28) (v := -1) dX11_fill_28 (by decide) ?_
    exact j_ireturn (pc := 29) dX11_fill_29 rfl (ri_1 H) (ri_2 H)
  · rw [if_neg c3] at H
    refine j_iload_n (pc := 11) dX11_fill_11 rfl ?_
    refine j_iconst (pc := 12) (v := 0) dX11_fill_12 (by decide) ?_
    refine j_aload_n (pc := 13) dX11_fill_13 rfl ?_
    refine j_getR (pc := 14) (b := 2) dX11_fill_14 flX11_20 rfl ?_
    refine j_getR (pc := 17) (b := 29) dX11_fill_17 flX11_95 rfl ?_
    refine j_iload_n (pc := 20) dX11_fill_20 rfl ?_
    obtain ⟨b4, H⟩ := ck_x H
    refine j_iaload (pc := 21) dX11_fill_21 rfl b4 rfl ?_
    obtain ⟨r6, h5, eh5, H⟩ := bd_x H
    refine j_callS (pc := 22) dX11_fill_22 mlX11_81 wyX11_between (tX11_between eh5) (by decide) rfl (by simp [Value.category]) rfl ?_
    refine j_if_ne (pc := 25) (tgt := 30) dX11_fill_25 (by decide) (fun c7 => ?_) (fun c7 => ?_)
    · rw [if_neg c7] at H
      refine j_aload_n (pc := 30) dX11_fill_30 rfl ?_
      refine j_getR (pc := 31) (b := 2) dX11_fill_31 flX11_20 rfl ?_
      refine j_getR (pc := 34) (b := 30) dX11_fill_34 flX11_98 rfl ?_
      refine j_iload_n (pc := 37) dX11_fill_37 rfl ?_
      obtain ⟨b8, H⟩ := ck_x H
      refine j_iaload (pc := 38) dX11_fill_38 rfl b8 rfl ?_
      obtain ⟨v3_9, ev3_9, H⟩ := nm_x H
      refine j_topi ev3_9 ?_
      refine j_istore_n (pc := 39) (L' := [some (.ref 0), some (.int p1), some (.int p2), some (.int v3_9)]) dX11_fill_39 (by decide) rfl ?_
      refine j_aload_n (pc := 40) dX11_fill_40 rfl ?_
      refine j_getR (pc := 41) (b := 2) dX11_fill_41 flX11_20 rfl ?_
      refine j_getR (pc := 44) (b := 30) dX11_fill_44 flX11_98 rfl ?_
      refine j_iload_n (pc := 47) dX11_fill_47 rfl ?_
      refine j_iload_n (pc := 48) dX11_fill_48 rfl ?_
      obtain ⟨b11, H⟩ := ck_x H
      obtain ⟨h10, eh10, H⟩ := nm_x H
      refine j_iastore (pc := 49) dX11_fill_49 rfl b11 rfl h10 eh10 ?_
      refine j_iload_n (pc := 50) dX11_fill_50 rfl ?_
      exact j_ireturn (pc := 51) dX11_fill_51 rfl (ri_1 H) (ri_2 H)
    · rw [if_pos c7] at H
      refine j_iconst (pc := 28) (v := -1) dX11_fill_28 (by decide) ?_
      exact j_ireturn (pc := 29) dX11_fill_29 rfl (ri_1 H) (ri_2 H)

noncomputable def fX11_entry (p1 : Int32) (p2 : Int32) (h : HS) : Option (Int32 × HS) := if p1 = 0 then (some ((p2.toInt8.toInt32), h)) else (if p1 = (1 : Int32) then (some ((p2.toInt16.toInt32), h)) else (some (p2, h)))
set_option maxRecDepth 100000 in
theorem tX11_entry {p1 : Int32} {p2 : Int32} {r : Int32} {h h0 : HS} (H : fX11_entry p1 p2 h = some (r, h0)) : Cn skC yX11_entry cX11_entry 2 (some .int) 0 [.int p1, .int p2] h (some (.int r)) h0 := by
  refine Cn_of (L := [some (.int p1), some (.int p2)]) (by decide +kernel) (by simp [lg_sl, Value.category]) (fun ad => by simp [lg_sl, tv, Value.category]) (⟨rfl, ⟨rfl, trivial⟩⟩) ?_
  unfold fX11_entry at H
  refine j_iload_n (pc := 0) dX11_entry_0 rfl ?_
  refine j_if_ne (pc := 1) (tgt := 7) dX11_entry_1 (by decide) (fun c1 => ?_) (fun c1 => ?_)
  · rw [if_neg c1] at H
    refine j_iload_n (pc := 7) dX11_entry_7 rfl ?_
    refine j_iconst (pc := 8) (v := 1) dX11_entry_8 (by decide) ?_
    refine j_icmp_ne (pc := 9) (tgt := 17) dX11_entry_9 (by decide) (fun c2 => ?_) (fun c2 => ?_)
    · rw [if_neg c2] at H
      refine j_iload_n (pc := 17) dX11_entry_17 rfl ?_
      exact j_ireturn (pc := 18) dX11_entry_18 rfl (ri_1 H) (ri_2 H)
    · rw [if_pos c2] at H
      refine j_iload_n (pc := 12) dX11_entry_12 rfl ?_
      refine j_i2s (pc := 13) dX11_entry_13 ?_
      refine j_goto (pc := 14) (tgt := 18) dX11_entry_14 (by decide) ?_
      exact j_ireturn (pc := 18) dX11_entry_18 rfl (ri_1 H) (ri_2 H)
  · rw [if_pos c1] at H
    refine j_iload_n (pc := 4) dX11_entry_4 rfl ?_
    refine j_i2b (pc := 5) dX11_entry_5 ?_
    exact j_ireturn (pc := 6) dX11_entry_6 rfl (ri_1 H) (ri_2 H)

noncomputable def fX11_sheet_55 : Nat → Int32 → Int32 → Int32 → Int32 → Int32 → HS → Option (Int32 × HS)
  | 0, _, _, _, _, _, _ => none
  | n + 1, v1, v3, v4, v5, v6, h => if v5 ≤ v6 then (some (v5, h)) else (bd (fX11_entry v1 ((v3 + (v6 * v4))) h) (fun r11 h10 => bv (fX4_put v6 r11 h10) (fun h12 => nm (v6 + (1 : Int32)) (fun v6_13 => fX11_sheet_55 n v1 v3 v4 v5 v6_13 h12))))
set_option maxRecDepth 100000 in
theorem jX11_sheet_55 {r : Int32} {h0 : HS} : ∀ (n : Nat) (v1 : Int32) (v3 : Int32) (v4 : Int32) (v5 : Int32) (v6 : Int32) (h : HS), fX11_sheet_55 n v1 v3 v4 v5 v6 h = some (r, h0) → Jx skC RX11 cX11_sheet 7 (some .int) 2 (some (.int r)) h0 55 [some (.ref 0), some (.int v1), none, some (.int v3), some (.int v4), some (.int v5), some (.int v6)] [] h := by
  intro n
  induction n with
  | zero => intro v1 v3 v4 v5 v6  h H; cases H
  | succ n ih =>
    intro v1 v3 v4 v5 v6  h H
    rw [fX11_sheet_55] at H
    refine j_iload (pc := 55) dX11_sheet_55 rfl ?_
    refine j_iload (pc := 57) dX11_sheet_57 rfl ?_
    refine j_icmp_ge (pc := 59) (tgt := 88) dX11_sheet_59 (by decide) (fun c9 => ?_) (fun c9 => ?_)
    · rw [if_pos c9] at H
      refine j_iload (pc := 88) dX11_sheet_88 rfl ?_
      exact j_ireturn (pc := 90) dX11_sheet_90 rfl (ri_1 H) (ri_2 H)
    · rw [if_neg c9] at H
      refine j_aload_n (pc := 62) dX11_sheet_62 rfl ?_
      refine j_getR (pc := 63) (b := 2) dX11_sheet_63 flX11_20 rfl ?_
      refine j_iload (pc := 66) dX11_sheet_66 rfl ?_
      refine j_iload_n (pc := 68) dX11_sheet_68 rfl ?_
      refine j_iload_n (pc := 69) dX11_sheet_69 rfl ?_
      refine j_iload (pc := 70) dX11_sheet_70 rfl ?_
      refine j_iload (pc := 72) dX11_sheet_72 rfl ?_
      refine j_imul (pc := 74) dX11_sheet_74 ?_
      refine j_iadd (pc := 75) dX11_sheet_75 ?_
      obtain ⟨r11, h10, eh10, H⟩ := bd_x H
      refine j_callS (pc := 76) dX11_sheet_76 mlX11_114 wyX11_entry (tX11_entry eh10) (by decide) rfl (by simp [Value.category]) rfl ?_
      obtain ⟨h12, eh12, H⟩ := bv_x H
      refine j_callV (pc := 79) dX11_sheet_79 mlX11_117 wyX4_put (tX4_put eh12) (by decide) rfl rfl rfl rfl (by simp [Value.category]) rfl ?_
      obtain ⟨v6_13, ev6_13, H⟩ := nm_x H
      refine j_iinc (pc := 82) (L' := [some (.ref 0), some (.int v1), none, some (.int v3), some (.int v4), some (.int v5), some (.int v6_13)]) (w := 1) dX11_sheet_82 rfl (by decide) (by decide) v6_13 ev6_13 rfl ?_
      refine j_goto (pc := 85) (tgt := 55) dX11_sheet_85 (by decide) ?_
      refine Jx.sub (L' := [some (.ref 0), some (.int v1), none, some (.int v3), some (.int v4), some (.int v5), some (.int v6_13)]) (⟨rfl, ⟨rfl, ⟨rfl, ⟨rfl, ⟨rfl, ⟨rfl, trivial⟩⟩⟩⟩⟩⟩) ?_
      exact ih v1 v3 v4 v5 v6_13 h12 H
noncomputable def fX11_sheet (p1 : Int32) (p2 : Int32) (p3 : Int32) (p4 : Int32) (h : HS) : Option (Int32 × HS) := bd (fX11_between p1 (0 : Int32) (3 : Int32) h) (fun r2 h1 => if r2 = 0 then (some ((-1 : Int32), h1)) else (if p2 ≤ (15 : Int32) then (if p1 = (3 : Int32) then (bv (fX4_emptyTanks h1) (fun h8 => some ((-3 : Int32), h8))) else (if 0 ≤ p2 then (nm ((imin p2 (gI h1 2 8))) (fun v5_7 => fX11_sheet_55 FU p1 p3 p4 v5_7 (0 : Int32) h1)) else (some ((-2 : Int32), h1)))) else (some ((-1 : Int32), h1))))
set_option maxRecDepth 100000 in
theorem tX11_sheet {p1 : Int32} {p2 : Int32} {p3 : Int32} {p4 : Int32} {r : Int32} {h h0 : HS} (H : fX11_sheet p1 p2 p3 p4 h = some (r, h0)) : Cn skC yX11_sheet cX11_sheet 7 (some .int) 2 [.ref 0, .int p1, .int p2, .int p3, .int p4] h (some (.int r)) h0 := by
  refine Cn_of (L := [some (.ref 0), some (.int p1), some (.int p2), some (.int p3), some (.int p4), none, none]) (by decide +kernel) (by simp [lg_sl, Value.category]) (fun ad => by simp [lg_sl, tv, Value.category]) (⟨rfl, ⟨rfl, ⟨rfl, ⟨rfl, ⟨rfl, trivial⟩⟩⟩⟩⟩) ?_
  unfold fX11_sheet at H
  refine j_iload_n (pc := 0) dX11_sheet_0 rfl ?_
  refine j_iconst (pc := 1) (v := 0) dX11_sheet_1 (by decide) ?_
  refine j_iconst (pc := 2) (v := 3) dX11_sheet_2 (by decide) ?_
  obtain ⟨r2, h1, eh1, H⟩ := bd_x H
  refine j_callS (pc := 3) dX11_sheet_3 mlX11_81 wyX11_between (tX11_between eh1) (by decide) rfl (by simp [Value.category]) rfl ?_
  refine j_if_eq (pc := 6) (tgt := 15) dX11_sheet_6 (by decide) (fun c3 => ?_) (fun c3 => ?_)
  · rw [if_pos c3] at H
    refine j_iconst (pc := 15) (v := -1) dX11_sheet_15 (by decide) ?_
    exact j_ireturn (pc := 16) dX11_sheet_16 rfl (ri_1 H) (ri_2 H)
  · rw [if_neg c3] at H
    refine j_iload_n (pc := 9) dX11_sheet_9 rfl ?_
    refine j_bipush (pc := 10) (v := 15) dX11_sheet_10 (by decide) ?_
    refine j_icmp_le (pc := 12) (tgt := 17) dX11_sheet_12 (by decide) (fun c4 => ?_) (fun c4 => ?_)
    · rw [if_pos c4] at H
      refine j_iload_n (pc := 17) dX11_sheet_17 rfl ?_
      refine j_iconst (pc := 18) (v := 3) dX11_sheet_18 (by decide) ?_
      refine j_icmp_ne (pc := 19) (tgt := 32) dX11_sheet_19 (by decide) (fun c5 => ?_) (fun c5 => ?_)
      · rw [if_neg c5] at H
        refine j_iload_n (pc := 32) dX11_sheet_32 rfl ?_
        refine j_if_ge (pc := 33) (tgt := 39) dX11_sheet_33 (by decide) (fun c6 => ?_) (fun c6 => ?_)
        · rw [if_pos c6] at H
          refine j_iload_n (pc := 39) dX11_sheet_39 rfl ?_
          refine j_aload_n (pc := 40) dX11_sheet_40 rfl ?_
          refine j_getR (pc := 41) (b := 2) dX11_sheet_41 flX11_20 rfl ?_
          refine j_getI (pc := 44) dX11_sheet_44 flX11_104 rfl ?_
          refine j_mmin (pc := 47) dX11_sheet_47 wmX11_108 (by simp [Value.category]) ?_
          obtain ⟨v5_7, ev5_7, H⟩ := nm_x H
          refine j_topi ev5_7 ?_
          refine j_istore (pc := 50) (L' := [some (.ref 0), some (.int p1), some (.int p2), some (.int p3), some (.int p4), some (.int v5_7), none]) dX11_sheet_50 (by decide) rfl ?_
          refine j_iconst (pc := 52) (v := 0) dX11_sheet_52 (by decide) ?_
          refine j_istore (pc := 53) (L' := [some (.ref 0), some (.int p1), some (.int p2), some (.int p3), some (.int p4), some (.int v5_7), some (.int (0 : Int32))]) dX11_sheet_53 (by decide) rfl ?_
          refine Jx.sub (L' := [some (.ref 0), some (.int p1), none, some (.int p3), some (.int p4), some (.int v5_7), some (.int (0 : Int32))]) (⟨rfl, ⟨rfl, ⟨rfl, ⟨rfl, ⟨rfl, ⟨rfl, trivial⟩⟩⟩⟩⟩⟩) ?_
          exact jX11_sheet_55 FU p1 p3 p4 v5_7 (0 : Int32) h1 H
        · rw [if_neg c6] at H
          refine j_bipush (pc := 36) (v := -2) dX11_sheet_36 (by decide) ?_
          exact j_ireturn (pc := 38) dX11_sheet_38 rfl (ri_1 H) (ri_2 H)
      · rw [if_pos c5] at H
        refine j_aload_n (pc := 22) dX11_sheet_22 rfl ?_
        refine j_getR (pc := 23) (b := 2) dX11_sheet_23 flX11_20 rfl ?_
        obtain ⟨h8, eh8, H⟩ := bv_x H
        refine j_callV (pc := 26) dX11_sheet_26 mlX11_101 wyX4_emptyTanks (tX4_emptyTanks eh8) (by decide) rfl rfl rfl rfl (by simp [Value.category]) rfl ?_
        refine j_bipush (pc := 29) (v := -3) dX11_sheet_29 (by decide) ?_
        exact j_ireturn (pc := 31) dX11_sheet_31 rfl (ri_1 H) (ri_2 H)
    · rw [if_neg c4] at H
      refine j_iconst (pc := 15) (v := -1) dX11_sheet_15 (by decide) ?_
      exact j_ireturn (pc := 16) dX11_sheet_16 rfl (ri_1 H) (ri_2 H)

noncomputable def fX11_base_37 (v1 : Int32) (v2 : Int32) (v3 : Int32) (s0 : Int32) (h : HS) : Option (Int32 × HS) := if s0 = 0 then (some (vp_nar .boolean s0, h)) else (nm (pI h 1 2 v1) (fun h11 => nm (pI h11 1 3 v2) (fun h12 => nm (pI h12 1 4 v3) (fun h13 => some (vp_nar .boolean s0, h13)))))
set_option maxRecDepth 100000 in
theorem jX11_base_37 {r : Int32} {h0 : HS} (v1 : Int32) (v2 : Int32) (v3 : Int32) (s0 : Int32) (h : HS) (H : fX11_base_37 v1 v2 v3 s0 h = some (r, h0)) : Jx skC RX11 cX11_base 5 (some .boolean) 1 (some (.int r)) h0 37 [some (.ref 0), some (.int v1), some (.int v2), some (.int v3), none] [.int s0] h := by
  unfold fX11_base_37 at H
  refine j_istore (pc := 37) (L' := [some (.ref 0), some (.int v1), some (.int v2), some (.int v3), some (.int s0)]) dX11_base_37 (by decide) rfl ?_
  refine j_iload (pc := 39) dX11_base_39 rfl ?_
  refine j_if_eq (pc := 41) (tgt := 68) dX11_base_41 (by decide) (fun c10 => ?_) (fun c10 => ?_)
  · rw [if_pos c10] at H
    refine j_iload (pc := 68) dX11_base_68 rfl ?_
    exact j_zreturn (pc := 70) dX11_base_70 rfl (ri_1 H) (ri_2 H)
  · rw [if_neg c10] at H
    refine j_aload_n (pc := 44) dX11_base_44 rfl ?_
    refine j_getR (pc := 45) (b := 1) dX11_base_45 flX11_10 rfl ?_
    refine j_iload_n (pc := 48) dX11_base_48 rfl ?_
    obtain ⟨h11, eh11, H⟩ := nm_x H
    refine j_putI (pc := 49) dX11_base_49 fpX11_125 rfl h11 eh11 ?_
    refine j_aload_n (pc := 52) dX11_base_52 rfl ?_
    refine j_getR (pc := 53) (b := 1) dX11_base_53 flX11_10 rfl ?_
    refine j_iload_n (pc := 56) dX11_base_56 rfl ?_
    obtain ⟨h12, eh12, H⟩ := nm_x H
    refine j_putI (pc := 57) dX11_base_57 fpX11_128 rfl h12 eh12 ?_
    refine j_aload_n (pc := 60) dX11_base_60 rfl ?_
    refine j_getR (pc := 61) (b := 1) dX11_base_61 flX11_10 rfl ?_
    refine j_iload_n (pc := 64) dX11_base_64 rfl ?_
    obtain ⟨h13, eh13, H⟩ := nm_x H
    refine j_putI (pc := 65) dX11_base_65 fpX11_131 rfl h13 eh13 ?_
    refine j_iload (pc := 68) dX11_base_68 rfl ?_
    exact j_zreturn (pc := 70) dX11_base_70 rfl (ri_1 H) (ri_2 H)
noncomputable def fX11_base_36 (v1 : Int32) (v2 : Int32) (v3 : Int32) (h : HS) : Option (Int32 × HS) := fX11_base_37 v1 v2 v3 (0 : Int32) h
set_option maxRecDepth 100000 in
theorem jX11_base_36 {r : Int32} {h0 : HS} (v1 : Int32) (v2 : Int32) (v3 : Int32) (h : HS) (H : fX11_base_36 v1 v2 v3 h = some (r, h0)) : Jx skC RX11 cX11_base 5 (some .boolean) 1 (some (.int r)) h0 36 [some (.ref 0), some (.int v1), some (.int v2), some (.int v3), none] [] h := by
  unfold fX11_base_36 at H
  refine j_iconst (pc := 36) (v := 0) dX11_base_36 (by decide) ?_
  refine Jx.sub (L' := [some (.ref 0), some (.int v1), some (.int v2), some (.int v3), none]) (⟨rfl, ⟨rfl, ⟨rfl, ⟨rfl, trivial⟩⟩⟩⟩) ?_
  exact jX11_base_37 v1 v2 v3 (0 : Int32) h H
noncomputable def fX11_base (p1 : Int32) (p2 : Int32) (p3 : Int32) (h : HS) : Option (Int32 × HS) := bd (fX11_between p1 (0 : Int32) (99999 : Int32) h) (fun r2 h1 => if r2 = 0 then (fX11_base_36 p1 p2 p3 h1) else (bd (fX11_between p2 (-999999 : Int32) (999999 : Int32) h1) (fun r5 h4 => if r5 = 0 then (fX11_base_36 p1 p2 p3 h4) else (bd (fX11_between p3 (-99999 : Int32) (99999 : Int32) h4) (fun r8 h7 => if r8 = 0 then (fX11_base_36 p1 p2 p3 h7) else (fX11_base_37 p1 p2 p3 (1 : Int32) h7))))))
set_option maxRecDepth 100000 in
theorem tX11_base {p1 : Int32} {p2 : Int32} {p3 : Int32} {r : Int32} {h h0 : HS} (H : fX11_base p1 p2 p3 h = some (r, h0)) : Cn skC yX11_base cX11_base 5 (some .boolean) 1 [.ref 0, .int p1, .int p2, .int p3] h (some (.int r)) h0 := by
  refine Cn_of (L := [some (.ref 0), some (.int p1), some (.int p2), some (.int p3), none]) (by decide +kernel) (by simp [lg_sl, Value.category]) (fun ad => by simp [lg_sl, tv, Value.category]) (⟨rfl, ⟨rfl, ⟨rfl, ⟨rfl, trivial⟩⟩⟩⟩) ?_
  unfold fX11_base at H
  refine j_iload_n (pc := 0) dX11_base_0 rfl ?_
  refine j_iconst (pc := 1) (v := 0) dX11_base_1 (by decide) ?_
  refine j_ldc (pc := 2) dX11_base_2 wkX11_121 ?_
  obtain ⟨r2, h1, eh1, H⟩ := bd_x H
  refine j_callS (pc := 4) dX11_base_4 mlX11_81 wyX11_between (tX11_between eh1) (by decide) rfl (by simp [Value.category]) rfl ?_
  refine j_if_eq (pc := 7) (tgt := 36) dX11_base_7 (by decide) (fun c3 => ?_) (fun c3 => ?_)
  · rw [if_pos c3] at H
    refine Jx.sub (L' := [some (.ref 0), some (.int p1), some (.int p2), some (.int p3), none]) (⟨rfl, ⟨rfl, ⟨rfl, ⟨rfl, trivial⟩⟩⟩⟩) ?_
    exact jX11_base_36 p1 p2 p3 h1 H
  · rw [if_neg c3] at H
    refine j_iload_n (pc := 10) dX11_base_10 rfl ?_
    refine j_ldc (pc := 11) dX11_base_11 wkX11_122 ?_
    refine j_ldc (pc := 13) dX11_base_13 wkX11_123 ?_
    obtain ⟨r5, h4, eh4, H⟩ := bd_x H
    refine j_callS (pc := 15) dX11_base_15 mlX11_81 wyX11_between (tX11_between eh4) (by decide) rfl (by simp [Value.category]) rfl ?_
    refine j_if_eq (pc := 18) (tgt := 36) dX11_base_18 (by decide) (fun c6 => ?_) (fun c6 => ?_)
    · rw [if_pos c6] at H
      refine Jx.sub (L' := [some (.ref 0), some (.int p1), some (.int p2), some (.int p3), none]) (⟨rfl, ⟨rfl, ⟨rfl, ⟨rfl, trivial⟩⟩⟩⟩) ?_
      exact jX11_base_36 p1 p2 p3 h4 H
    · rw [if_neg c6] at H
      refine j_iload_n (pc := 21) dX11_base_21 rfl ?_
      refine j_ldc (pc := 22) dX11_base_22 wkX11_124 ?_
      refine j_ldc (pc := 24) dX11_base_24 wkX11_121 ?_
      obtain ⟨r8, h7, eh7, H⟩ := bd_x H
      refine j_callS (pc := 26) dX11_base_26 mlX11_81 wyX11_between (tX11_between eh7) (by decide) rfl (by simp [Value.category]) rfl ?_
      refine j_if_eq (pc := 29) (tgt := 36) dX11_base_29 (by decide) (fun c9 => ?_) (fun c9 => ?_)
      · rw [if_pos c9] at H
        refine Jx.sub (L' := [some (.ref 0), some (.int p1), some (.int p2), some (.int p3), none]) (⟨rfl, ⟨rfl, ⟨rfl, ⟨rfl, trivial⟩⟩⟩⟩) ?_
        exact jX11_base_36 p1 p2 p3 h7 H
      · rw [if_neg c9] at H
        refine j_iconst (pc := 32) (v := 1) dX11_base_32 (by decide) ?_
        refine j_goto (pc := 33) (tgt := 37) dX11_base_33 (by decide) ?_
        refine Jx.sub (L' := [some (.ref 0), some (.int p1), some (.int p2), some (.int p3), none]) (⟨rfl, ⟨rfl, ⟨rfl, ⟨rfl, trivial⟩⟩⟩⟩) ?_
        exact jX11_base_37 p1 p2 p3 (1 : Int32) h7 H

noncomputable def fX11_hull_25 (v1 : Int32) (v2 : Int32) (s0 : Int32) (h : HS) : Option (Int32 × HS) := if s0 = 0 then (some (vp_nar .boolean s0, h)) else (nm (pI h 3 3 v1) (fun h8 => nm (pI h8 3 4 v2) (fun h9 => some (vp_nar .boolean s0, h9))))
set_option maxRecDepth 100000 in
theorem jX11_hull_25 {r : Int32} {h0 : HS} (v1 : Int32) (v2 : Int32) (s0 : Int32) (h : HS) (H : fX11_hull_25 v1 v2 s0 h = some (r, h0)) : Jx skC RX11 cX11_hull 4 (some .boolean) 1 (some (.int r)) h0 25 [some (.ref 0), some (.int v1), some (.int v2), none] [.int s0] h := by
  unfold fX11_hull_25 at H
  refine j_istore_n (pc := 25) (L' := [some (.ref 0), some (.int v1), some (.int v2), some (.int s0)]) dX11_hull_25 (by decide) rfl ?_
  refine j_iload_n (pc := 26) dX11_hull_26 rfl ?_
  refine j_if_eq (pc := 27) (tgt := 46) dX11_hull_27 (by decide) (fun c7 => ?_) (fun c7 => ?_)
  · rw [if_pos c7] at H
    refine j_iload_n (pc := 46) dX11_hull_46 rfl ?_
    exact j_zreturn (pc := 47) dX11_hull_47 rfl (ri_1 H) (ri_2 H)
  · rw [if_neg c7] at H
    refine j_aload_n (pc := 30) dX11_hull_30 rfl ?_
    refine j_getR (pc := 31) (b := 3) dX11_hull_31 flX11_25 rfl ?_
    refine j_iload_n (pc := 34) dX11_hull_34 rfl ?_
    obtain ⟨h8, eh8, H⟩ := nm_x H
    refine j_putI (pc := 35) dX11_hull_35 fpX11_134 rfl h8 eh8 ?_
    refine j_aload_n (pc := 38) dX11_hull_38 rfl ?_
    refine j_getR (pc := 39) (b := 3) dX11_hull_39 flX11_25 rfl ?_
    refine j_iload_n (pc := 42) dX11_hull_42 rfl ?_
    obtain ⟨h9, eh9, H⟩ := nm_x H
    refine j_putI (pc := 43) dX11_hull_43 fpX11_139 rfl h9 eh9 ?_
    refine j_iload_n (pc := 46) dX11_hull_46 rfl ?_
    exact j_zreturn (pc := 47) dX11_hull_47 rfl (ri_1 H) (ri_2 H)
noncomputable def fX11_hull_24 (v1 : Int32) (v2 : Int32) (h : HS) : Option (Int32 × HS) := fX11_hull_25 v1 v2 (0 : Int32) h
set_option maxRecDepth 100000 in
theorem jX11_hull_24 {r : Int32} {h0 : HS} (v1 : Int32) (v2 : Int32) (h : HS) (H : fX11_hull_24 v1 v2 h = some (r, h0)) : Jx skC RX11 cX11_hull 4 (some .boolean) 1 (some (.int r)) h0 24 [some (.ref 0), some (.int v1), some (.int v2), none] [] h := by
  unfold fX11_hull_24 at H
  refine j_iconst (pc := 24) (v := 0) dX11_hull_24 (by decide) ?_
  refine Jx.sub (L' := [some (.ref 0), some (.int v1), some (.int v2), none]) (⟨rfl, ⟨rfl, ⟨rfl, trivial⟩⟩⟩) ?_
  exact jX11_hull_25 v1 v2 (0 : Int32) h H
noncomputable def fX11_hull (p1 : Int32) (p2 : Int32) (h : HS) : Option (Int32 × HS) := bd (fX11_between p1 (1 : Int32) (99999 : Int32) h) (fun r2 h1 => if r2 = 0 then (fX11_hull_24 p1 p2 h1) else (bd (fX11_between p2 (0 : Int32) (99 : Int32) h1) (fun r5 h4 => if r5 = 0 then (fX11_hull_24 p1 p2 h4) else (fX11_hull_25 p1 p2 (1 : Int32) h4))))
set_option maxRecDepth 100000 in
theorem tX11_hull {p1 : Int32} {p2 : Int32} {r : Int32} {h h0 : HS} (H : fX11_hull p1 p2 h = some (r, h0)) : Cn skC yX11_hull cX11_hull 4 (some .boolean) 1 [.ref 0, .int p1, .int p2] h (some (.int r)) h0 := by
  refine Cn_of (L := [some (.ref 0), some (.int p1), some (.int p2), none]) (by decide +kernel) (by simp [lg_sl, Value.category]) (fun ad => by simp [lg_sl, tv, Value.category]) (⟨rfl, ⟨rfl, ⟨rfl, trivial⟩⟩⟩) ?_
  unfold fX11_hull at H
  refine j_iload_n (pc := 0) dX11_hull_0 rfl ?_
  refine j_iconst (pc := 1) (v := 1) dX11_hull_1 (by decide) ?_
  refine j_ldc (pc := 2) dX11_hull_2 wkX11_121 ?_
  obtain ⟨r2, h1, eh1, H⟩ := bd_x H
  refine j_callS (pc := 4) dX11_hull_4 mlX11_81 wyX11_between (tX11_between eh1) (by decide) rfl (by simp [Value.category]) rfl ?_
  refine j_if_eq (pc := 7) (tgt := 24) dX11_hull_7 (by decide) (fun c3 => ?_) (fun c3 => ?_)
  · rw [if_pos c3] at H
    refine Jx.sub (L' := [some (.ref 0), some (.int p1), some (.int p2), none]) (⟨rfl, ⟨rfl, ⟨rfl, trivial⟩⟩⟩) ?_
    exact jX11_hull_24 p1 p2 h1 H
  · rw [if_neg c3] at H
    refine j_iload_n (pc := 10) dX11_hull_10 rfl ?_
    refine j_iconst (pc := 11) (v := 0) dX11_hull_11 (by decide) ?_
    refine j_bipush (pc := 12) (v := 99) dX11_hull_12 (by decide) ?_
    obtain ⟨r5, h4, eh4, H⟩ := bd_x H
    refine j_callS (pc := 14) dX11_hull_14 mlX11_81 wyX11_between (tX11_between eh4) (by decide) rfl (by simp [Value.category]) rfl ?_
    refine j_if_eq (pc := 17) (tgt := 24) dX11_hull_17 (by decide) (fun c6 => ?_) (fun c6 => ?_)
    · rw [if_pos c6] at H
      refine Jx.sub (L' := [some (.ref 0), some (.int p1), some (.int p2), none]) (⟨rfl, ⟨rfl, ⟨rfl, trivial⟩⟩⟩) ?_
      exact jX11_hull_24 p1 p2 h4 H
    · rw [if_neg c6] at H
      refine j_iconst (pc := 20) (v := 1) dX11_hull_20 (by decide) ?_
      refine j_goto (pc := 21) (tgt := 25) dX11_hull_21 (by decide) ?_
      refine Jx.sub (L' := [some (.ref 0), some (.int p1), some (.int p2), none]) (⟨rfl, ⟨rfl, ⟨rfl, trivial⟩⟩⟩) ?_
      exact jX11_hull_25 p1 p2 (1 : Int32) h4 H

noncomputable def fX11_layer (p1 : Int32) (p2 : Int32) (h : HS) : Option (Int32 × HS) := bd (fX11_isDepth p1 h) (fun r2 h1 => if r2 = 0 then (some ((-1 : Int32), h1)) else (bd (fX11_between p2 (900 : Int32) (1100 : Int32) h1) (fun r5 h4 => if r5 = 0 then (some ((-1 : Int32), h4)) else (bd (fX10_addLayer p1 p2 h4) (fun r8 h7 => some (r8, h7))))))
set_option maxRecDepth 100000 in
theorem tX11_layer {p1 : Int32} {p2 : Int32} {r : Int32} {h h0 : HS} (H : fX11_layer p1 p2 h = some (r, h0)) : Cn skC yX11_layer cX11_layer 3 (some .int) 2 [.ref 0, .int p1, .int p2] h (some (.int r)) h0 := by
  refine Cn_of (L := [some (.ref 0), some (.int p1), some (.int p2)]) (by decide +kernel) (by simp [lg_sl, Value.category]) (fun ad => by simp [lg_sl, tv, Value.category]) (⟨rfl, ⟨rfl, ⟨rfl, trivial⟩⟩⟩) ?_
  unfold fX11_layer at H
  refine j_iload_n (pc := 0) dX11_layer_0 rfl ?_
  obtain ⟨r2, h1, eh1, H⟩ := bd_x H
  refine j_callS (pc := 1) dX11_layer_1 mlX11_142 wyX11_isDepth (tX11_isDepth eh1) (by decide) rfl (by simp [Value.category]) rfl ?_
  refine j_if_eq (pc := 4) (tgt := 32) dX11_layer_4 (by decide) (fun c3 => ?_) (fun c3 => ?_)
  · rw [if_pos c3] at H
    refine j_iconst (pc := 32) (v := -1) dX11_layer_32 (by decide) ?_
    exact j_ireturn (pc := 33) dX11_layer_33 rfl (ri_1 H) (ri_2 H)
  · rw [if_neg c3] at H
    refine j_iload_n (pc := 7) dX11_layer_7 rfl ?_
    refine j_sipush (pc := 8) (v := 900) dX11_layer_8 (by decide) ?_
    refine j_sipush (pc := 11) (v := 1100) dX11_layer_11 (by decide) ?_
    obtain ⟨r5, h4, eh4, H⟩ := bd_x H
    refine j_callS (pc := 14) dX11_layer_14 mlX11_81 wyX11_between (tX11_between eh4) (by decide) rfl (by simp [Value.category]) rfl ?_
    refine j_if_eq (pc := 17) (tgt := 32) dX11_layer_17 (by decide) (fun c6 => ?_) (fun c6 => ?_)
    · rw [if_pos c6] at H
      refine j_iconst (pc := 32) (v := -1) dX11_layer_32 (by decide) ?_
      exact j_ireturn (pc := 33) dX11_layer_33 rfl (ri_1 H) (ri_2 H)
    · rw [if_neg c6] at H
      refine j_aload_n (pc := 20) dX11_layer_20 rfl ?_
      refine j_getR (pc := 21) (b := 3) dX11_layer_21 flX11_25 rfl ?_
      refine j_iload_n (pc := 24) dX11_layer_24 rfl ?_
      refine j_iload_n (pc := 25) dX11_layer_25 rfl ?_
      obtain ⟨r8, h7, eh7, H⟩ := bd_x H
      refine j_callV (pc := 26) dX11_layer_26 mlX11_145 wyX10_addLayer (tX10_addLayer eh7) (by decide) rfl rfl rfl rfl (by simp [Value.category]) rfl ?_
      refine j_goto (pc := 29) (tgt := 33) dX11_layer_29 (by decide) ?_
      exact j_ireturn (pc := 33) dX11_layer_33 rfl (ri_1 H) (ri_2 H)

noncomputable def fX11_mix (h : HS) : Option (Int32 × HS) := nm ((gI h 3 2)) (fun v1_1 => nm (pI h 3 2 (0 : Int32)) (fun h2 => some (v1_1, h2)))
set_option maxRecDepth 100000 in
theorem tX11_mix {r : Int32} {h h0 : HS} (H : fX11_mix h = some (r, h0)) : Cn skC yX11_mix cX11_mix 2 (some .int) 0 [.ref 0] h (some (.int r)) h0 := by
  refine Cn_of (L := [some (.ref 0), none]) (by decide +kernel) (by simp [lg_sl, Value.category]) (fun ad => by simp [lg_sl, tv, Value.category]) (⟨rfl, trivial⟩) ?_
  unfold fX11_mix at H
  refine j_aload_n (pc := 0) dX11_mix_0 rfl ?_
  refine j_getR (pc := 1) (b := 3) dX11_mix_1 flX11_25 rfl ?_
  refine j_getI (pc := 4) dX11_mix_4 flX11_148 rfl ?_
  obtain ⟨v1_1, ev1_1, H⟩ := nm_x H
  refine j_topi ev1_1 ?_
  refine j_istore_n (pc := 7) (L' := [some (.ref 0), some (.int v1_1)]) dX11_mix_7 (by decide) rfl ?_
  refine j_aload_n (pc := 8) dX11_mix_8 rfl ?_
  refine j_getR (pc := 9) (b := 3) dX11_mix_9 flX11_25 rfl ?_
  refine j_iconst (pc := 12) (v := 0) dX11_mix_12 (by decide) ?_
  obtain ⟨h2, eh2, H⟩ := nm_x H
  refine j_putI (pc := 13) dX11_mix_13 fpX11_148 rfl h2 eh2 ?_
  refine j_iload_n (pc := 16) dX11_mix_16 rfl ?_
  exact j_ireturn (pc := 17) dX11_mix_17 rfl (ri_1 H) (ri_2 H)

noncomputable def fX11_slack_23 (v1 : Int32) (v2 : Int32) (s2 : Int32) (s1 : Int32) (s0 : Int32) (h : HS) : Option (Int32 × HS) := bd (fX11_between s0 s1 s2 h) (fun r6 h5 => if r6 = 0 then (some ((-1 : Int32), h5)) else (ck (inb v1 3) (nm ((gI h5 17 v1.toNatClampNeg)) (fun v3_9 => ck (inb v1 3) (nm (pI h5 17 v1.toNatClampNeg v2) (fun h10 => some (v3_9, h10)))))))
set_option maxRecDepth 100000 in
theorem jX11_slack_23 {r : Int32} {h0 : HS} (v1 : Int32) (v2 : Int32) (s2 : Int32) (s1 : Int32) (s0 : Int32) (h : HS) (H : fX11_slack_23 v1 v2 s2 s1 s0 h = some (r, h0)) : Jx skC RX11 cX11_slack 4 (some .int) 1 (some (.int r)) h0 23 [some (.ref 0), some (.int v1), some (.int v2), none] [.int s2, .int s1, .int s0] h := by
  unfold fX11_slack_23 at H
  obtain ⟨r6, h5, eh5, H⟩ := bd_x H
  refine j_callS (pc := 23) dX11_slack_23 mlX11_81 wyX11_between (tX11_between eh5) (by decide) rfl (by simp [Value.category]) rfl ?_
  refine j_if_ne (pc := 26) (tgt := 31) dX11_slack_26 (by decide) (fun c7 => ?_) (fun c7 => ?_)
  · rw [if_neg c7] at H
    refine j_aload_n (pc := 31) dX11_slack_31 rfl ?_
    refine j_getR (pc := 32) (b := 1) dX11_slack_32 flX11_10 rfl ?_
    refine j_getR (pc := 35) (b := 17) dX11_slack_35 flX11_151 rfl ?_
    refine j_iload_n (pc := 38) dX11_slack_38 rfl ?_
    obtain ⟨b8, H⟩ := ck_x H
    refine j_iaload (pc := 39) dX11_slack_39 rfl b8 rfl ?_
    obtain ⟨v3_9, ev3_9, H⟩ := nm_x H
    refine j_topi ev3_9 ?_
    refine j_istore_n (pc := 40) (L' := [some (.ref 0), some (.int v1), some (.int v2), some (.int v3_9)]) dX11_slack_40 (by decide) rfl ?_
    refine j_aload_n (pc := 41) dX11_slack_41 rfl ?_
    refine j_getR (pc := 42) (b := 1) dX11_slack_42 flX11_10 rfl ?_
    refine j_getR (pc := 45) (b := 17) dX11_slack_45 flX11_151 rfl ?_
    refine j_iload_n (pc := 48) dX11_slack_48 rfl ?_
    refine j_iload_n (pc := 49) dX11_slack_49 rfl ?_
    obtain ⟨b11, H⟩ := ck_x H
    obtain ⟨h10, eh10, H⟩ := nm_x H
    refine j_iastore (pc := 50) dX11_slack_50 rfl b11 rfl h10 eh10 ?_
    refine j_iload_n (pc := 51) dX11_slack_51 rfl ?_
    exact j_ireturn (pc := 52) dX11_slack_52 rfl (ri_1 H) (ri_2 H)
  · rw [if_pos c7] at H
    refine j_iconst (pc := 29) (v := -1) dX11_slack_29 (by decide) ?_
    exact j_ireturn (pc := 30) dX11_slack_30 rfl (ri_1 H) (ri_2 H)
noncomputable def fX11_slack (p1 : Int32) (p2 : Int32) (h : HS) : Option (Int32 × HS) := bd (fX11_between p1 (0 : Int32) (2 : Int32) h) (fun r2 h1 => if r2 = 0 then (some ((-1 : Int32), h1)) else (if p1 = 0 then (fX11_slack_23 p1 p2 (50 : Int32) (0 : Int32) p2 h1) else (fX11_slack_23 p1 p2 (9999 : Int32) (0 : Int32) p2 h1)))
set_option maxRecDepth 100000 in
theorem tX11_slack {p1 : Int32} {p2 : Int32} {r : Int32} {h h0 : HS} (H : fX11_slack p1 p2 h = some (r, h0)) : Cn skC yX11_slack cX11_slack 4 (some .int) 1 [.ref 0, .int p1, .int p2] h (some (.int r)) h0 := by
  refine Cn_of (L := [some (.ref 0), some (.int p1), some (.int p2), none]) (by decide +kernel) (by simp [lg_sl, Value.category]) (fun ad => by simp [lg_sl, tv, Value.category]) (⟨rfl, ⟨rfl, ⟨rfl, trivial⟩⟩⟩) ?_
  unfold fX11_slack at H
  refine j_iload_n (pc := 0) dX11_slack_0 rfl ?_
  refine j_iconst (pc := 1) (v := 0) dX11_slack_1 (by decide) ?_
  refine j_iconst (pc := 2) (v := 2) dX11_slack_2 (by decide) ?_
  obtain ⟨r2, h1, eh1, H⟩ := bd_x H
  refine j_callS (pc := 3) dX11_slack_3 mlX11_81 wyX11_between (tX11_between eh1) (by decide) rfl (by simp [Value.category]) rfl ?_
  refine j_if_eq (pc := 6) (tgt := 29) dX11_slack_6 (by decide) (fun c3 => ?_) (fun c3 => ?_)
  · rw [if_pos c3] at H
    refine j_iconst (pc := 29) (v := -1) dX11_slack_29 (by decide) ?_
    exact j_ireturn (pc := 30) dX11_slack_30 rfl (ri_1 H) (ri_2 H)
  · rw [if_neg c3] at H
    refine j_iload_n (pc := 9) dX11_slack_9 rfl ?_
    refine j_iconst (pc := 10) (v := 0) dX11_slack_10 (by decide) ?_
    refine j_iload_n (pc := 11) dX11_slack_11 rfl ?_
    refine j_if_ne (pc := 12) (tgt := 20) dX11_slack_12 (by decide) (fun c4 => ?_) (fun c4 => ?_)
    · rw [if_neg c4] at H
      refine j_sipush (pc := 20) (v := 9999) dX11_slack_20 (by decide) ?_
      refine Jx.sub (L' := [some (.ref 0), some (.int p1), some (.int p2), none]) (⟨rfl, ⟨rfl, ⟨rfl, trivial⟩⟩⟩) ?_
      exact jX11_slack_23 p1 p2 (9999 : Int32) (0 : Int32) p2 h1 H
    · rw [if_pos c4] at H
      refine j_bipush (pc := 15) (v := 50) dX11_slack_15 (by decide) ?_
      refine j_goto (pc := 17) (tgt := 23) dX11_slack_17 (by decide) ?_
      refine Jx.sub (L' := [some (.ref 0), some (.int p1), some (.int p2), none]) (⟨rfl, ⟨rfl, ⟨rfl, trivial⟩⟩⟩) ?_
      exact jX11_slack_23 p1 p2 (50 : Int32) (0 : Int32) p2 h1 H

noncomputable def fX11_of (p1 : Int32) (p2 : Int32) (h : HS) : Option (Int32 × HS) := bd (fX4_there p1 h) (fun r2 h1 => if r2 = 0 then none else (if p2 = (0 : Int32) then (ck (inb p1 15) (some ((gI h1 26 p1.toNatClampNeg), h1))) else (if p2 = (1 : Int32) then (ck (inb p1 15) (some ((gI h1 27 p1.toNatClampNeg), h1))) else (if p2 = (2 : Int32) then (ck (inb p1 15) (some ((gI h1 28 p1.toNatClampNeg), h1))) else (if p2 = (3 : Int32) then (ck (inb p1 15) (some ((gI h1 29 p1.toNatClampNeg), h1))) else (if p2 = (4 : Int32) then (ck (inb p1 15) (some ((gI h1 30 p1.toNatClampNeg), h1))) else (none)))))))
set_option maxRecDepth 100000 in
theorem tX11_of {p1 : Int32} {p2 : Int32} {r : Int32} {h h0 : HS} (H : fX11_of p1 p2 h = some (r, h0)) : Cn skC yX11_of cX11_of 3 (some .int) 1 [.ref 0, .int p1, .int p2] h (some (.int r)) h0 := by
  refine Cn_of (L := [some (.ref 0), some (.int p1), some (.int p2)]) (by decide +kernel) (by simp [lg_sl, Value.category]) (fun ad => by simp [lg_sl, tv, Value.category]) (⟨rfl, ⟨rfl, ⟨rfl, trivial⟩⟩⟩) ?_
  unfold fX11_of at H
  refine j_aload_n (pc := 0) dX11_of_0 rfl ?_
  refine j_getR (pc := 1) (b := 2) dX11_of_1 flX11_20 rfl ?_
  refine j_iload_n (pc := 4) dX11_of_4 rfl ?_
  obtain ⟨r2, h1, eh1, H⟩ := bd_x H
  refine j_callV (pc := 5) dX11_of_5 mlX11_91 wyX4_there (tX4_there eh1) (by decide) rfl rfl rfl rfl (by simp [Value.category]) rfl ?_
  refine j_if_ne (pc := 8) (tgt := 21) dX11_of_8 (by decide) (fun c3 => ?_) (fun c3 => ?_)
  · rw [if_neg c3] at H
    refine j_iload_n (pc := 21) dX11_of_21 rfl ?_
    by_cases c4 : p2 = 0
    · rw [if_pos c4] at H
      refine j_tableIn (pc := 22) (tgt := 56) dX11_of_22 (by rw [c4]; decide) (by rw [c4]; decide) (by rw [c4]; rfl) (by decide) ?_
      refine j_aload_n (pc := 56) dX11_of_56 rfl ?_
      refine j_getR (pc := 57) (b := 2) dX11_of_57 flX11_20 rfl ?_
      refine j_getR (pc := 60) (b := 26) dX11_of_60 flX11_161 rfl ?_
      refine j_iload_n (pc := 63) dX11_of_63 rfl ?_
      obtain ⟨b5, H⟩ := ck_x H
      refine j_iaload (pc := 64) dX11_of_64 rfl b5 rfl ?_
      exact j_ireturn (pc := 65) dX11_of_65 rfl (ri_1 H) (ri_2 H)
    · rw [if_neg c4] at H
      by_cases c6 : p2 = 1
      · rw [if_pos c6] at H
        refine j_tableIn (pc := 22) (tgt := 66) dX11_of_22 (by rw [c6]; decide) (by rw [c6]; decide) (by rw [c6]; rfl) (by decide) ?_
        refine j_aload_n (pc := 66) dX11_of_66 rfl ?_
        refine j_getR (pc := 67) (b := 2) dX11_of_67 flX11_20 rfl ?_
        refine j_getR (pc := 70) (b := 27) dX11_of_70 flX11_164 rfl ?_
        refine j_iload_n (pc := 73) dX11_of_73 rfl ?_
        obtain ⟨b7, H⟩ := ck_x H
        refine j_iaload (pc := 74) dX11_of_74 rfl b7 rfl ?_
        exact j_ireturn (pc := 75) dX11_of_75 rfl (ri_1 H) (ri_2 H)
      · rw [if_neg c6] at H
        by_cases c8 : p2 = 2
        · rw [if_pos c8] at H
          refine j_tableIn (pc := 22) (tgt := 76) dX11_of_22 (by rw [c8]; decide) (by rw [c8]; decide) (by rw [c8]; rfl) (by decide) ?_
          refine j_aload_n (pc := 76) dX11_of_76 rfl ?_
          refine j_getR (pc := 77) (b := 2) dX11_of_77 flX11_20 rfl ?_
          refine j_getR (pc := 80) (b := 28) dX11_of_80 flX11_167 rfl ?_
          refine j_iload_n (pc := 83) dX11_of_83 rfl ?_
          obtain ⟨b9, H⟩ := ck_x H
          refine j_iaload (pc := 84) dX11_of_84 rfl b9 rfl ?_
          exact j_ireturn (pc := 85) dX11_of_85 rfl (ri_1 H) (ri_2 H)
        · rw [if_neg c8] at H
          by_cases c10 : p2 = 3
          · rw [if_pos c10] at H
            refine j_tableIn (pc := 22) (tgt := 86) dX11_of_22 (by rw [c10]; decide) (by rw [c10]; decide) (by rw [c10]; rfl) (by decide) ?_
            refine j_aload_n (pc := 86) dX11_of_86 rfl ?_
            refine j_getR (pc := 87) (b := 2) dX11_of_87 flX11_20 rfl ?_
            refine j_getR (pc := 90) (b := 29) dX11_of_90 flX11_95 rfl ?_
            refine j_iload_n (pc := 93) dX11_of_93 rfl ?_
            obtain ⟨b11, H⟩ := ck_x H
            refine j_iaload (pc := 94) dX11_of_94 rfl b11 rfl ?_
            exact j_ireturn (pc := 95) dX11_of_95 rfl (ri_1 H) (ri_2 H)
          · rw [if_neg c10] at H
            by_cases c12 : p2 = 4
            · rw [if_pos c12] at H
              refine j_tableIn (pc := 22) (tgt := 96) dX11_of_22 (by rw [c12]; decide) (by rw [c12]; decide) (by rw [c12]; rfl) (by decide) ?_
              refine j_aload_n (pc := 96) dX11_of_96 rfl ?_
              refine j_getR (pc := 97) (b := 2) dX11_of_97 flX11_20 rfl ?_
              refine j_getR (pc := 100) (b := 30) dX11_of_100 flX11_98 rfl ?_
              refine j_iload_n (pc := 103) dX11_of_103 rfl ?_
              obtain ⟨b13, H⟩ := ck_x H
              refine j_iaload (pc := 104) dX11_of_104 rfl b13 rfl ?_
              exact j_ireturn (pc := 105) dX11_of_105 rfl (ri_1 H) (ri_2 H)
            · rw [if_neg c12] at H
              refine j_tableOut (pc := 22) (tgt := 106) dX11_of_22 (tb_out (fun k k1 k2 => ?_)) (by decide) ?_
              · have hk : k = 0 ∨ k = 1 ∨ k = 2 ∨ k = 3 ∨ k = 4 := by omega
                rcases hk with rfl | rfl | rfl | rfl | rfl
                · exact c4
                · exact c6
                · exact c8
                · exact c10
                · exact c12
              · cases H
  · rw [if_pos c3] at H
    cases H

noncomputable def fX11_heavy (p1 : Int32) (h : HS) : Option (Int32 × HS) := bd (fX11_isDepth p1 h) (fun r2 h1 => if r2 = 0 then none else (bd (fX0_heavyAt p1 h1) (fun r5 h4 => some (r5, h4))))
set_option maxRecDepth 100000 in
theorem tX11_heavy {p1 : Int32} {r : Int32} {h h0 : HS} (H : fX11_heavy p1 h = some (r, h0)) : Cn skC yX11_heavy cX11_heavy 2 (some .int) 3 [.ref 0, .int p1] h (some (.int r)) h0 := by
  refine Cn_of (L := [some (.ref 0), some (.int p1)]) (by decide +kernel) (by simp [lg_sl, Value.category]) (fun ad => by simp [lg_sl, tv, Value.category]) (⟨rfl, ⟨rfl, trivial⟩⟩) ?_
  unfold fX11_heavy at H
  refine j_iload_n (pc := 0) dX11_heavy_0 rfl ?_
  obtain ⟨r2, h1, eh1, H⟩ := bd_x H
  refine j_callS (pc := 1) dX11_heavy_1 mlX11_142 wyX11_isDepth (tX11_isDepth eh1) (by decide) rfl (by simp [Value.category]) rfl ?_
  refine j_if_ne (pc := 4) (tgt := 17) dX11_heavy_4 (by decide) (fun c3 => ?_) (fun c3 => ?_)
  · rw [if_neg c3] at H
    refine j_aload_n (pc := 17) dX11_heavy_17 rfl ?_
    refine j_getR (pc := 18) (b := 1) dX11_heavy_18 flX11_10 rfl ?_
    refine j_iload_n (pc := 21) dX11_heavy_21 rfl ?_
    obtain ⟨r5, h4, eh4, H⟩ := bd_x H
    refine j_callV (pc := 22) dX11_heavy_22 mlX11_174 wyX0_heavyAt (tX0_heavyAt eh4) (by decide) rfl rfl rfl rfl (by simp [Value.category]) rfl ?_
    exact j_ireturn (pc := 25) dX11_heavy_25 rfl (ri_1 H) (ri_2 H)
  · rw [if_pos c3] at H
    cases H

noncomputable def fX11_moment (p1 : Int32) (h : HS) : Option (Int32 × HS) := bd (fX11_between p1 (0 : Int32) (1 : Int32) h) (fun r2 h1 => if r2 = 0 then none else (if p1 = 0 then (bd (fX0_momentNow h1) (fun r8 h7 => some (r8, h7))) else (bd (fX0_listNow h1) (fun r6 h5 => some (r6, h5)))))
set_option maxRecDepth 100000 in
theorem tX11_moment {p1 : Int32} {r : Int32} {h h0 : HS} (H : fX11_moment p1 h = some (r, h0)) : Cn skC yX11_moment cX11_moment 2 (some .int) 2 [.ref 0, .int p1] h (some (.int r)) h0 := by
  refine Cn_of (L := [some (.ref 0), some (.int p1)]) (by decide +kernel) (by simp [lg_sl, Value.category]) (fun ad => by simp [lg_sl, tv, Value.category]) (⟨rfl, ⟨rfl, trivial⟩⟩) ?_
  unfold fX11_moment at H
  refine j_iload_n (pc := 0) dX11_moment_0 rfl ?_
  refine j_iconst (pc := 1) (v := 0) dX11_moment_1 (by decide) ?_
  refine j_iconst (pc := 2) (v := 1) dX11_moment_2 (by decide) ?_
  obtain ⟨r2, h1, eh1, H⟩ := bd_x H
  refine j_callS (pc := 3) dX11_moment_3 mlX11_81 wyX11_between (tX11_between eh1) (by decide) rfl (by simp [Value.category]) rfl ?_
  refine j_if_ne (pc := 6) (tgt := 19) dX11_moment_6 (by decide) (fun c3 => ?_) (fun c3 => ?_)
  · rw [if_neg c3] at H
    refine j_iload_n (pc := 19) dX11_moment_19 rfl ?_
    refine j_if_ne (pc := 20) (tgt := 33) dX11_moment_20 (by decide) (fun c4 => ?_) (fun c4 => ?_)
    · rw [if_neg c4] at H
      refine j_aload_n (pc := 33) dX11_moment_33 rfl ?_
      refine j_getR (pc := 34) (b := 1) dX11_moment_34 flX11_10 rfl ?_
      obtain ⟨r6, h5, eh5, H⟩ := bd_x H
      refine j_callV (pc := 37) dX11_moment_37 mlX11_184 wyX0_listNow (tX0_listNow eh5) (by decide) rfl rfl rfl rfl (by simp [Value.category]) rfl ?_
      exact j_ireturn (pc := 40) dX11_moment_40 rfl (ri_1 H) (ri_2 H)
    · rw [if_pos c4] at H
      refine j_aload_n (pc := 23) dX11_moment_23 rfl ?_
      refine j_getR (pc := 24) (b := 1) dX11_moment_24 flX11_10 rfl ?_
      obtain ⟨r8, h7, eh7, H⟩ := bd_x H
      refine j_callV (pc := 27) dX11_moment_27 mlX11_180 wyX0_momentNow (tX0_momentNow eh7) (by decide) rfl rfl rfl rfl (by simp [Value.category]) rfl ?_
      refine j_goto (pc := 30) (tgt := 40) dX11_moment_30 (by decide) ?_
      exact j_ireturn (pc := 40) dX11_moment_40 rfl (ri_1 H) (ri_2 H)
  · rw [if_pos c3] at H
    cases H

noncomputable def fX11_balanced (p1 : Int32) (h : HS) : Option (Int32 × HS) := bd (fX11_isDepth p1 h) (fun r2 h1 => if r2 = 0 then (some ((-1 : Int32), h1)) else (bd (fX0_isBalanced p1 h1) (fun r5 h4 => if r5 = 0 then (some ((0 : Int32), h4)) else (some ((1 : Int32), h4)))))
set_option maxRecDepth 100000 in
theorem tX11_balanced {p1 : Int32} {r : Int32} {h h0 : HS} (H : fX11_balanced p1 h = some (r, h0)) : Cn skC yX11_balanced cX11_balanced 2 (some .int) 4 [.ref 0, .int p1] h (some (.int r)) h0 := by
  refine Cn_of (L := [some (.ref 0), some (.int p1)]) (by decide +kernel) (by simp [lg_sl, Value.category]) (fun ad => by simp [lg_sl, tv, Value.category]) (⟨rfl, ⟨rfl, trivial⟩⟩) ?_
  unfold fX11_balanced at H
  refine j_iload_n (pc := 0) dX11_balanced_0 rfl ?_
  obtain ⟨r2, h1, eh1, H⟩ := bd_x H
  refine j_callS (pc := 1) dX11_balanced_1 mlX11_142 wyX11_isDepth (tX11_isDepth eh1) (by decide) rfl (by simp [Value.category]) rfl ?_
  refine j_if_ne (pc := 4) (tgt := 9) dX11_balanced_4 (by decide) (fun c3 => ?_) (fun c3 => ?_)
  · rw [if_neg c3] at H
    refine j_aload_n (pc := 9) dX11_balanced_9 rfl ?_
    refine j_getR (pc := 10) (b := 1) dX11_balanced_10 flX11_10 rfl ?_
    refine j_iload_n (pc := 13) dX11_balanced_13 rfl ?_
    obtain ⟨r5, h4, eh4, H⟩ := bd_x H
    refine j_callV (pc := 14) dX11_balanced_14 mlX11_187 wyX0_isBalanced (tX0_isBalanced eh4) (by decide) rfl rfl rfl rfl (by simp [Value.category]) rfl ?_
    refine j_if_eq (pc := 17) (tgt := 24) dX11_balanced_17 (by decide) (fun c6 => ?_) (fun c6 => ?_)
    · rw [if_pos c6] at H
      refine j_iconst (pc := 24) (v := 0) dX11_balanced_24 (by decide) ?_
      exact j_ireturn (pc := 25) dX11_balanced_25 rfl (ri_1 H) (ri_2 H)
    · rw [if_neg c6] at H
      refine j_iconst (pc := 20) (v := 1) dX11_balanced_20 (by decide) ?_
      refine j_goto (pc := 21) (tgt := 25) dX11_balanced_21 (by decide) ?_
      exact j_ireturn (pc := 25) dX11_balanced_25 rfl (ri_1 H) (ri_2 H)
  · rw [if_pos c3] at H
    refine j_iconst (pc := 7) (v := -1) dX11_balanced_7 (by decide) ?_
    exact j_ireturn (pc := 8) dX11_balanced_8 rfl (ri_1 H) (ri_2 H)

noncomputable def fX11_lies_21 : Nat → Int32 → Int32 → Int32 → HS → Option (Int32 × HS)
  | 0, _, _, _, _ => none
  | n + 1, v2, v3, v4, h => if v2 < v4 then (some ((-2 : Int32), h)) else (bd (fX10_liftAt v4 h) (fun r8 h7 => if r8 < v3 then (nm (v4 + (1 : Int32)) (fun v4_10 => fX11_lies_21 n v2 v3 v4_10 h7)) else (some (v4, h7))))
set_option maxRecDepth 100000 in
theorem jX11_lies_21 {r : Int32} {h0 : HS} : ∀ (n : Nat) (v2 : Int32) (v3 : Int32) (v4 : Int32) (h : HS), fX11_lies_21 n v2 v3 v4 h = some (r, h0) → Jx skC RX11 cX11_lies 5 (some .int) 3 (some (.int r)) h0 21 [some (.ref 0), none, some (.int v2), some (.int v3), some (.int v4)] [] h := by
  intro n
  induction n with
  | zero => intro v2 v3 v4  h H; cases H
  | succ n ih =>
    intro v2 v3 v4  h H
    rw [fX11_lies_21] at H
    refine j_iload (pc := 21) dX11_lies_21 rfl ?_
    refine j_iload_n (pc := 23) dX11_lies_23 rfl ?_
    refine j_icmp_gt (pc := 24) (tgt := 49) dX11_lies_24 (by decide) (fun c6 => ?_) (fun c6 => ?_)
    · rw [if_pos c6] at H
      refine j_bipush (pc := 49) (v := -2) dX11_lies_49 (by decide) ?_
      exact j_ireturn (pc := 51) dX11_lies_51 rfl (ri_1 H) (ri_2 H)
    · rw [if_neg c6] at H
      refine j_iload_n (pc := 27) dX11_lies_27 rfl ?_
      refine j_aload_n (pc := 28) dX11_lies_28 rfl ?_
      refine j_getR (pc := 29) (b := 3) dX11_lies_29 flX11_25 rfl ?_
      refine j_iload (pc := 32) dX11_lies_32 rfl ?_
      obtain ⟨r8, h7, eh7, H⟩ := bd_x H
      refine j_callV (pc := 34) dX11_lies_34 mlX11_197 wyX10_liftAt (tX10_liftAt eh7) (by decide) rfl rfl rfl rfl (by simp [Value.category]) rfl ?_
      refine j_icmp_gt (pc := 37) (tgt := 43) dX11_lies_37 (by decide) (fun c9 => ?_) (fun c9 => ?_)
      · rw [if_pos c9] at H
        obtain ⟨v4_10, ev4_10, H⟩ := nm_x H
        refine j_iinc (pc := 43) (L' := [some (.ref 0), none, some (.int v2), some (.int v3), some (.int v4_10)]) (w := 1) dX11_lies_43 rfl (by decide) (by decide) v4_10 ev4_10 rfl ?_
        refine j_goto (pc := 46) (tgt := 21) dX11_lies_46 (by decide) ?_
        refine Jx.sub (L' := [some (.ref 0), none, some (.int v2), some (.int v3), some (.int v4_10)]) (⟨rfl, ⟨rfl, ⟨rfl, ⟨rfl, trivial⟩⟩⟩⟩) ?_
        exact ih v2 v3 v4_10 h7 H
      · rw [if_neg c9] at H
        refine j_iload (pc := 40) dX11_lies_40 rfl ?_
        exact j_ireturn (pc := 42) dX11_lies_42 rfl (ri_1 H) (ri_2 H)
noncomputable def fX11_lies (p1 : Int32) (p2 : Int32) (h : HS) : Option (Int32 × HS) := bd (fX11_isWayDown p1 p2 h) (fun r2 h1 => if r2 = 0 then (some ((-1 : Int32), h1)) else (bd (fX0_weightNow h1) (fun r5 h4 => fX11_lies_21 FU p2 r5 p1 h4)))
set_option maxRecDepth 100000 in
theorem tX11_lies {p1 : Int32} {p2 : Int32} {r : Int32} {h h0 : HS} (H : fX11_lies p1 p2 h = some (r, h0)) : Cn skC yX11_lies cX11_lies 5 (some .int) 3 [.ref 0, .int p1, .int p2] h (some (.int r)) h0 := by
  refine Cn_of (L := [some (.ref 0), some (.int p1), some (.int p2), none, none]) (by decide +kernel) (by simp [lg_sl, Value.category]) (fun ad => by simp [lg_sl, tv, Value.category]) (⟨rfl, ⟨rfl, ⟨rfl, trivial⟩⟩⟩) ?_
  unfold fX11_lies at H
  refine j_iload_n (pc := 0) dX11_lies_0 rfl ?_
  refine j_iload_n (pc := 1) dX11_lies_1 rfl ?_
  obtain ⟨r2, h1, eh1, H⟩ := bd_x H
  refine j_callS (pc := 2) dX11_lies_2 mlX11_190 wyX11_isWayDown (tX11_isWayDown eh1) (by decide) rfl (by simp [Value.category]) rfl ?_
  refine j_if_ne (pc := 5) (tgt := 10) dX11_lies_5 (by decide) (fun c3 => ?_) (fun c3 => ?_)
  · rw [if_neg c3] at H
    refine j_aload_n (pc := 10) dX11_lies_10 rfl ?_
    refine j_getR (pc := 11) (b := 1) dX11_lies_11 flX11_10 rfl ?_
    obtain ⟨r5, h4, eh4, H⟩ := bd_x H
    refine j_callV (pc := 14) dX11_lies_14 mlX11_194 wyX0_weightNow (tX0_weightNow eh4) (by decide) rfl rfl rfl rfl (by simp [Value.category]) rfl ?_
    refine j_istore_n (pc := 17) (L' := [some (.ref 0), some (.int p1), some (.int p2), some (.int r5), none]) dX11_lies_17 (by decide) rfl ?_
    refine j_iload_n (pc := 18) dX11_lies_18 rfl ?_
    refine j_istore (pc := 19) (L' := [some (.ref 0), some (.int p1), some (.int p2), some (.int r5), some (.int p1)]) dX11_lies_19 (by decide) rfl ?_
    refine Jx.sub (L' := [some (.ref 0), none, some (.int p2), some (.int r5), some (.int p1)]) (⟨rfl, ⟨rfl, ⟨rfl, ⟨rfl, trivial⟩⟩⟩⟩) ?_
    exact jX11_lies_21 FU p2 r5 p1 h4 H
  · rw [if_pos c3] at H
    refine j_iconst (pc := 8) (v := -1) dX11_lies_8 (by decide) ?_
    exact j_ireturn (pc := 9) dX11_lies_9 rfl (ri_1 H) (ri_2 H)

noncomputable def fX11_hover_103 (v5 : Int32) (v6 : Int32) (v7 : Int32) (h : HS) : Option (Int32 × HS) := bv (fX6_empty h) (fun h15 => if v5 ≤ 0 then (some (v5, h15)) else (bv (fX6_add v6 h15) (fun h17 => bv (fX6_add v7 h17) (fun h18 => some (v5, h18)))))
set_option maxRecDepth 100000 in
theorem jX11_hover_103 {r : Int32} {h0 : HS} (v5 : Int32) (v6 : Int32) (v7 : Int32) (h : HS) (H : fX11_hover_103 v5 v6 v7 h = some (r, h0)) : Jx skC RX11 cX11_hover 9 (some .int) 3 (some (.int r)) h0 103 [some (.ref 0), none, none, none, none, some (.int v5), some (.int v6), some (.int v7), none] [] h := by
  unfold fX11_hover_103 at H
  refine j_aload_n (pc := 103) dX11_hover_103 rfl ?_
  refine j_getR (pc := 104) (b := 4) dX11_hover_104 flX11_29 rfl ?_
  obtain ⟨h15, eh15, H⟩ := bv_x H
  refine j_callV (pc := 107) dX11_hover_107 mlX11_207 wyX6_empty (tX6_empty eh15) (by decide) rfl rfl rfl rfl (by simp [Value.category]) rfl ?_
  refine j_iload (pc := 110) dX11_hover_110 rfl ?_
  refine j_if_le (pc := 112) (tgt := 133) dX11_hover_112 (by decide) (fun c16 => ?_) (fun c16 => ?_)
  · rw [if_pos c16] at H
    refine j_iload (pc := 133) dX11_hover_133 rfl ?_
    exact j_ireturn (pc := 135) dX11_hover_135 rfl (ri_1 H) (ri_2 H)
  · rw [if_neg c16] at H
    refine j_aload_n (pc := 115) dX11_hover_115 rfl ?_
    refine j_getR (pc := 116) (b := 4) dX11_hover_116 flX11_29 rfl ?_
    refine j_iload (pc := 119) dX11_hover_119 rfl ?_
    obtain ⟨h17, eh17, H⟩ := bv_x H
    refine j_callV (pc := 121) dX11_hover_121 mlX11_210 wyX6_add (tX6_add eh17) (by decide) rfl rfl rfl rfl (by simp [Value.category]) rfl ?_
    refine j_aload_n (pc := 124) dX11_hover_124 rfl ?_
    refine j_getR (pc := 125) (b := 4) dX11_hover_125 flX11_29 rfl ?_
    refine j_iload (pc := 128) dX11_hover_128 rfl ?_
    obtain ⟨h18, eh18, H⟩ := bv_x H
    refine j_callV (pc := 130) dX11_hover_130 mlX11_210 wyX6_add (tX6_add eh18) (by decide) rfl rfl rfl rfl (by simp [Value.category]) rfl ?_
    refine j_iload (pc := 133) dX11_hover_133 rfl ?_
    exact j_ireturn (pc := 135) dX11_hover_135 rfl (ri_1 H) (ri_2 H)
noncomputable def fX11_hover_88 (k39 : Int32 → Int32 → Int32 → Int32 → Int32 → Int32 → Int32 → HS → Option (Int32 × HS)) (v2 : Int32) (v3 : Int32) (v4 : Int32) (v5 : Int32) (v8 : Int32) (s0 : Int32) (h : HS) : Option (Int32 × HS) := nm (v5 + (1 : Int32)) (fun v5_19 => nm (v8 + (1 : Int32)) (fun v8_20 => k39 v2 v3 v4 v5_19 s0 v8 v8_20 h))
set_option maxRecDepth 100000 in
theorem jX11_hover_88 {r : Int32} {h0 : HS} (k39 : Int32 → Int32 → Int32 → Int32 → Int32 → Int32 → Int32 → HS → Option (Int32 × HS)) (hk39 : ∀ (v2 : Int32) (v3 : Int32) (v4 : Int32) (v5 : Int32) (v6 : Int32) (v7 : Int32) (v8 : Int32) (h : HS), k39 v2 v3 v4 v5 v6 v7 v8 h = some (r, h0) → Jx skC RX11 cX11_hover 9 (some .int) 3 (some (.int r)) h0 39 [some (.ref 0), none, some (.int v2), some (.int v3), some (.int v4), some (.int v5), some (.int v6), some (.int v7), some (.int v8)] [] h) (v2 : Int32) (v3 : Int32) (v4 : Int32) (v5 : Int32) (v8 : Int32) (s0 : Int32) (h : HS) (H : fX11_hover_88 k39 v2 v3 v4 v5 v8 s0 h = some (r, h0)) : Jx skC RX11 cX11_hover 9 (some .int) 3 (some (.int r)) h0 88 [some (.ref 0), none, some (.int v2), some (.int v3), some (.int v4), some (.int v5), none, none, some (.int v8)] [.int s0] h := by
  unfold fX11_hover_88 at H
  refine j_istore (pc := 88) (L' := [some (.ref 0), none, some (.int v2), some (.int v3), some (.int v4), some (.int v5), some (.int s0), none, some (.int v8)]) dX11_hover_88 (by decide) rfl ?_
  refine j_iload (pc := 90) dX11_hover_90 rfl ?_
  refine j_istore (pc := 92) (L' := [some (.ref 0), none, some (.int v2), some (.int v3), some (.int v4), some (.int v5), some (.int s0), some (.int v8), some (.int v8)]) dX11_hover_92 (by decide) rfl ?_
  obtain ⟨v5_19, ev5_19, H⟩ := nm_x H
  refine j_iinc (pc := 94) (L' := [some (.ref 0), none, some (.int v2), some (.int v3), some (.int v4), some (.int v5_19), some (.int s0), some (.int v8), some (.int v8)]) (w := 1) dX11_hover_94 rfl (by decide) (by decide) v5_19 ev5_19 rfl ?_
  obtain ⟨v8_20, ev8_20, H⟩ := nm_x H
  refine j_iinc (pc := 97) (L' := [some (.ref 0), none, some (.int v2), some (.int v3), some (.int v4), some (.int v5_19), some (.int s0), some (.int v8), some (.int v8_20)]) (w := 1) dX11_hover_97 rfl (by decide) (by decide) v8_20 ev8_20 rfl ?_
  refine j_goto (pc := 100) (tgt := 39) dX11_hover_100 (by decide) ?_
  refine Jx.sub (L' := [some (.ref 0), none, some (.int v2), some (.int v3), some (.int v4), some (.int v5_19), some (.int s0), some (.int v8), some (.int v8_20)]) (⟨rfl, ⟨rfl, ⟨rfl, ⟨rfl, ⟨rfl, ⟨rfl, ⟨rfl, ⟨rfl, trivial⟩⟩⟩⟩⟩⟩⟩⟩) ?_
  exact hk39 v2 v3 v4 v5_19 s0 v8 v8_20 h H
noncomputable def fX11_hover_39 : Nat → Int32 → Int32 → Int32 → Int32 → Int32 → Int32 → Int32 → HS → Option (Int32 × HS)
  | 0, _, _, _, _, _, _, _, _ => none
  | n + 1, v2, v3, v4, v5, v6, v7, v8, h => if v3 = 0 then (fX11_hover_103 v5 v6 v7 h) else (if v2 < v8 then (fX11_hover_103 v5 v6 v7 h) else (bd (fX10_liftAt v8 h) (fun r11 h10 => if (gI h10 17 0) < (iabs (v4 - r11)) then (nm (v8 + (1 : Int32)) (fun v8_13 => fX11_hover_39 n v2 v3 v4 v5 v6 v7 v8_13 h10)) else (if v5 = 0 then (fX11_hover_88 (fX11_hover_39 n) v2 v3 v4 v5 v8 v8 h10) else (fX11_hover_88 (fX11_hover_39 n) v2 v3 v4 v5 v8 v6 h10)))))
set_option maxRecDepth 100000 in
theorem jX11_hover_39 {r : Int32} {h0 : HS} : ∀ (n : Nat) (v2 : Int32) (v3 : Int32) (v4 : Int32) (v5 : Int32) (v6 : Int32) (v7 : Int32) (v8 : Int32) (h : HS), fX11_hover_39 n v2 v3 v4 v5 v6 v7 v8 h = some (r, h0) → Jx skC RX11 cX11_hover 9 (some .int) 3 (some (.int r)) h0 39 [some (.ref 0), none, some (.int v2), some (.int v3), some (.int v4), some (.int v5), some (.int v6), some (.int v7), some (.int v8)] [] h := by
  intro n
  induction n with
  | zero => intro v2 v3 v4 v5 v6 v7 v8  h H; cases H
  | succ n ih =>
    intro v2 v3 v4 v5 v6 v7 v8  h H
    rw [fX11_hover_39] at H
    refine j_iload_n (pc := 39) dX11_hover_39 rfl ?_
    refine j_if_eq (pc := 40) (tgt := 103) dX11_hover_40 (by decide) (fun c8 => ?_) (fun c8 => ?_)
    · rw [if_pos c8] at H
      refine Jx.sub (L' := [some (.ref 0), none, none, none, none, some (.int v5), some (.int v6), some (.int v7), none]) (⟨rfl, ⟨rfl, ⟨rfl, ⟨rfl, trivial⟩⟩⟩⟩) ?_
      exact jX11_hover_103 v5 v6 v7 h H
    · rw [if_neg c8] at H
      refine j_iload (pc := 43) dX11_hover_43 rfl ?_
      refine j_iload_n (pc := 45) dX11_hover_45 rfl ?_
      refine j_icmp_gt (pc := 46) (tgt := 103) dX11_hover_46 (by decide) (fun c9 => ?_) (fun c9 => ?_)
      · rw [if_pos c9] at H
        refine Jx.sub (L' := [some (.ref 0), none, none, none, none, some (.int v5), some (.int v6), some (.int v7), none]) (⟨rfl, ⟨rfl, ⟨rfl, ⟨rfl, trivial⟩⟩⟩⟩) ?_
        exact jX11_hover_103 v5 v6 v7 h H
      · rw [if_neg c9] at H
        refine j_iload (pc := 49) dX11_hover_49 rfl ?_
        refine j_aload_n (pc := 51) dX11_hover_51 rfl ?_
        refine j_getR (pc := 52) (b := 3) dX11_hover_52 flX11_25 rfl ?_
        refine j_iload (pc := 55) dX11_hover_55 rfl ?_
        obtain ⟨r11, h10, eh10, H⟩ := bd_x H
        refine j_callV (pc := 57) dX11_hover_57 mlX11_197 wyX10_liftAt (tX10_liftAt eh10) (by decide) rfl rfl rfl rfl (by simp [Value.category]) rfl ?_
        refine j_isub (pc := 60) dX11_hover_60 ?_
        refine j_mabs (pc := 61) dX11_hover_61 wmX11_204 (by simp [Value.category]) ?_
        refine j_aload_n (pc := 64) dX11_hover_64 rfl ?_
        refine j_getR (pc := 65) (b := 1) dX11_hover_65 flX11_10 rfl ?_
        refine j_getR (pc := 68) (b := 17) dX11_hover_68 flX11_151 rfl ?_
        refine j_iconst (pc := 71) (v := 0) dX11_hover_71 (by decide) ?_
        refine j_iaload (pc := 72) (j := 0) dX11_hover_72 rfl (by decide) (by decide) ?_
        refine j_icmp_gt (pc := 73) (tgt := 97) dX11_hover_73 (by decide) (fun c12 => ?_) (fun c12 => ?_)
        · rw [if_pos c12] at H
          obtain ⟨v8_13, ev8_13, H⟩ := nm_x H
          refine j_iinc (pc := 97) (L' := [some (.ref 0), none, some (.int v2), some (.int v3), some (.int v4), some (.int v5), some (.int v6), some (.int v7), some (.int v8_13)]) (w := 1) dX11_hover_97 rfl (by decide) (by decide) v8_13 ev8_13 rfl ?_
          refine j_goto (pc := 100) (tgt := 39) dX11_hover_100 (by decide) ?_
          refine Jx.sub (L' := [some (.ref 0), none, some (.int v2), some (.int v3), some (.int v4), some (.int v5), some (.int v6), some (.int v7), some (.int v8_13)]) (⟨rfl, ⟨rfl, ⟨rfl, ⟨rfl, ⟨rfl, ⟨rfl, ⟨rfl, ⟨rfl, trivial⟩⟩⟩⟩⟩⟩⟩⟩) ?_
          exact ih v2 v3 v4 v5 v6 v7 v8_13 h10 H
        · rw [if_neg c12] at H
          refine j_iload (pc := 76) dX11_hover_76 rfl ?_
          refine j_if_ne (pc := 78) (tgt := 86) dX11_hover_78 (by decide) (fun c14 => ?_) (fun c14 => ?_)
          · rw [if_neg c14] at H
            refine j_iload (pc := 86) dX11_hover_86 rfl ?_
            refine Jx.sub (L' := [some (.ref 0), none, some (.int v2), some (.int v3), some (.int v4), some (.int v5), none, none, some (.int v8)]) (⟨rfl, ⟨rfl, ⟨rfl, ⟨rfl, ⟨rfl, ⟨rfl, trivial⟩⟩⟩⟩⟩⟩) ?_
            exact jX11_hover_88 _ ih v2 v3 v4 v5 v8 v6 h10 H
          · rw [if_pos c14] at H
            refine j_iload (pc := 81) dX11_hover_81 rfl ?_
            refine j_goto (pc := 83) (tgt := 88) dX11_hover_83 (by decide) ?_
            refine Jx.sub (L' := [some (.ref 0), none, some (.int v2), some (.int v3), some (.int v4), some (.int v5), none, none, some (.int v8)]) (⟨rfl, ⟨rfl, ⟨rfl, ⟨rfl, ⟨rfl, ⟨rfl, trivial⟩⟩⟩⟩⟩⟩) ?_
            exact jX11_hover_88 _ ih v2 v3 v4 v5 v8 v8 h10 H
noncomputable def fX11_hover (p1 : Int32) (p2 : Int32) (h : HS) : Option (Int32 × HS) := bd (fX11_isWayDown p1 p2 h) (fun r2 h1 => if r2 = 0 then (some ((-1 : Int32), h1)) else (bd (fX0_isLevel h1) (fun r5 h4 => bd (fX0_weightNow h4) (fun r7 h6 => fX11_hover_39 FU p2 r5 r7 (0 : Int32) (-1 : Int32) (-1 : Int32) p1 h6))))
set_option maxRecDepth 100000 in
theorem tX11_hover {p1 : Int32} {p2 : Int32} {r : Int32} {h h0 : HS} (H : fX11_hover p1 p2 h = some (r, h0)) : Cn skC yX11_hover cX11_hover 9 (some .int) 3 [.ref 0, .int p1, .int p2] h (some (.int r)) h0 := by
  refine Cn_of (L := [some (.ref 0), some (.int p1), some (.int p2), none, none, none, none, none, none]) (by decide +kernel) (by simp [lg_sl, Value.category]) (fun ad => by simp [lg_sl, tv, Value.category]) (⟨rfl, ⟨rfl, ⟨rfl, trivial⟩⟩⟩) ?_
  unfold fX11_hover at H
  refine j_iload_n (pc := 0) dX11_hover_0 rfl ?_
  refine j_iload_n (pc := 1) dX11_hover_1 rfl ?_
  obtain ⟨r2, h1, eh1, H⟩ := bd_x H
  refine j_callS (pc := 2) dX11_hover_2 mlX11_190 wyX11_isWayDown (tX11_isWayDown eh1) (by decide) rfl (by simp [Value.category]) rfl ?_
  refine j_if_ne (pc := 5) (tgt := 10) dX11_hover_5 (by decide) (fun c3 => ?_) (fun c3 => ?_)
  · rw [if_neg c3] at H
    refine j_aload_n (pc := 10) dX11_hover_10 rfl ?_
    refine j_getR (pc := 11) (b := 1) dX11_hover_11 flX11_10 rfl ?_
    obtain ⟨r5, h4, eh4, H⟩ := bd_x H
    refine j_callV (pc := 14) dX11_hover_14 mlX11_200 wyX0_isLevel (tX0_isLevel eh4) (by decide) rfl rfl rfl rfl (by simp [Value.category]) rfl ?_
    refine j_istore_n (pc := 17) (L' := [some (.ref 0), some (.int p1), some (.int p2), some (.int r5), none, none, none, none, none]) dX11_hover_17 (by decide) rfl ?_
    refine j_aload_n (pc := 18) dX11_hover_18 rfl ?_
    refine j_getR (pc := 19) (b := 1) dX11_hover_19 flX11_10 rfl ?_
    obtain ⟨r7, h6, eh6, H⟩ := bd_x H
    refine j_callV (pc := 22) dX11_hover_22 mlX11_194 wyX0_weightNow (tX0_weightNow eh6) (by decide) rfl rfl rfl rfl (by simp [Value.category]) rfl ?_
    refine j_istore (pc := 25) (L' := [some (.ref 0), some (.int p1), some (.int p2), some (.int r5), some (.int r7), none, none, none, none]) dX11_hover_25 (by decide) rfl ?_
    refine j_iconst (pc := 27) (v := 0) dX11_hover_27 (by decide) ?_
    refine j_istore (pc := 28) (L' := [some (.ref 0), some (.int p1), some (.int p2), some (.int r5), some (.int r7), some (.int (0 : Int32)), none, none, none]) dX11_hover_28 (by decide) rfl ?_
    refine j_iconst (pc := 30) (v := -1) dX11_hover_30 (by decide) ?_
    refine j_istore (pc := 31) (L' := [some (.ref 0), some (.int p1), some (.int p2), some (.int r5), some (.int r7), some (.int (0 : Int32)), some (.int (-1 : Int32)), none, none]) dX11_hover_31 (by decide) rfl ?_
    refine j_iconst (pc := 33) (v := -1) dX11_hover_33 (by decide) ?_
    refine j_istore (pc := 34) (L' := [some (.ref 0), some (.int p1), some (.int p2), some (.int r5), some (.int r7), some (.int (0 : Int32)), some (.int (-1 : Int32)), some (.int (-1 : Int32)), none]) dX11_hover_34 (by decide) rfl ?_
    refine j_iload_n (pc := 36) dX11_hover_36 rfl ?_
    refine j_istore (pc := 37) (L' := [some (.ref 0), some (.int p1), some (.int p2), some (.int r5), some (.int r7), some (.int (0 : Int32)), some (.int (-1 : Int32)), some (.int (-1 : Int32)), some (.int p1)]) dX11_hover_37 (by decide) rfl ?_
    refine Jx.sub (L' := [some (.ref 0), none, some (.int p2), some (.int r5), some (.int r7), some (.int (0 : Int32)), some (.int (-1 : Int32)), some (.int (-1 : Int32)), some (.int p1)]) (⟨rfl, ⟨rfl, ⟨rfl, ⟨rfl, ⟨rfl, ⟨rfl, ⟨rfl, ⟨rfl, trivial⟩⟩⟩⟩⟩⟩⟩⟩) ?_
    exact jX11_hover_39 FU p2 r5 r7 (0 : Int32) (-1 : Int32) (-1 : Int32) p1 h6 H
  · rw [if_pos c3] at H
    refine j_iconst (pc := 8) (v := -1) dX11_hover_8 (by decide) ?_
    exact j_ireturn (pc := 9) dX11_hover_9 rfl (ri_1 H) (ri_2 H)

noncomputable def fX11_sign_16 : Nat → Int32 → Int32 → HS → Option (Int32 × HS)
  | 0, _, _, _ => none
  | n + 1, v1, v2, h => if v2 < 0 then (some ((gI h 0 5), h)) else (ck (inb (gI h 0 5) 80) (nm (pI h 16 (gI h 0 5).toNatClampNeg ((iush v1 v2) &&& (255 : Int32))) (fun h3 => nm (pI h3 0 5 ((gI h3 0 5) + (1 : Int32))) (fun h5 => nm (v2 + (-8 : Int32)) (fun v2_6 => fX11_sign_16 n v1 v2_6 h5)))))
set_option maxRecDepth 100000 in
theorem jX11_sign_16 {r : Int32} {h0 : HS} : ∀ (n : Nat) (v1 : Int32) (v2 : Int32) (h : HS), fX11_sign_16 n v1 v2 h = some (r, h0) → Jx skC RX11 cX11_sign 3 (some .int) 0 (some (.int r)) h0 16 [some (.ref 0), some (.int v1), some (.int v2)] [] h := by
  intro n
  induction n with
  | zero => intro v1 v2  h H; cases H
  | succ n ih =>
    intro v1 v2  h H
    rw [fX11_sign_16] at H
    refine j_iload_n (pc := 16) dX11_sign_16 rfl ?_
    refine j_if_lt (pc := 17) (tgt := 52) dX11_sign_17 (by decide) (fun c2 => ?_) (fun c2 => ?_)
    · rw [if_pos c2] at H
      refine j_aload_n (pc := 52) dX11_sign_52 rfl ?_
      refine j_getI (pc := 53) dX11_sign_53 flX11_213 rfl ?_
      exact j_ireturn (pc := 56) dX11_sign_56 rfl (ri_1 H) (ri_2 H)
    · rw [if_neg c2] at H
      refine j_aload_n (pc := 20) dX11_sign_20 rfl ?_
      refine j_getR (pc := 21) (b := 16) dX11_sign_21 flX11_33 rfl ?_
      refine j_aload_n (pc := 24) dX11_sign_24 rfl ?_
      refine j_getI (pc := 25) dX11_sign_25 flX11_213 rfl ?_
      refine j_iload_n (pc := 28) dX11_sign_28 rfl ?_
      refine j_iload_n (pc := 29) dX11_sign_29 rfl ?_
      refine j_iushr (pc := 30) dX11_sign_30 ?_
      refine j_sipush (pc := 31) (v := 255) dX11_sign_31 (by decide) ?_
      refine j_iand (pc := 34) dX11_sign_34 ?_
      obtain ⟨b4, H⟩ := ck_x H
      obtain ⟨h3, eh3, H⟩ := nm_x H
      refine j_iastore (pc := 35) dX11_sign_35 rfl b4 rfl h3 eh3 ?_
      refine j_aload_n (pc := 36) dX11_sign_36 rfl ?_
      refine j_dup (pc := 37) dX11_sign_37 rfl ?_
      refine j_getI (pc := 38) dX11_sign_38 flX11_213 rfl ?_
      refine j_iconst (pc := 41) (v := 1) dX11_sign_41 (by decide) ?_
      refine j_iadd (pc := 42) dX11_sign_42 ?_
      obtain ⟨h5, eh5, H⟩ := nm_x H
      refine j_putI (pc := 43) dX11_sign_43 fpX11_213 rfl h5 eh5 ?_
      obtain ⟨v2_6, ev2_6, H⟩ := nm_x H
      refine j_iinc (pc := 46) (L' := [some (.ref 0), some (.int v1), some (.int v2_6)]) (w := -8) dX11_sign_46 rfl (by decide) (by decide) v2_6 ev2_6 rfl ?_
      refine j_goto (pc := 49) (tgt := 16) dX11_sign_49 (by decide) ?_
      refine Jx.sub (L' := [some (.ref 0), some (.int v1), some (.int v2_6)]) (⟨rfl, ⟨rfl, ⟨rfl, trivial⟩⟩⟩) ?_
      exact ih v1 v2_6 h5 H
noncomputable def fX11_sign (p1 : Int32) (h : HS) : Option (Int32 × HS) := if ((gI h 0 5) + (4 : Int32)) ≤ (80 : Int32) then (fX11_sign_16 FU p1 (24 : Int32) h) else (some ((-1 : Int32), h))
set_option maxRecDepth 100000 in
theorem tX11_sign {p1 : Int32} {r : Int32} {h h0 : HS} (H : fX11_sign p1 h = some (r, h0)) : Cn skC yX11_sign cX11_sign 3 (some .int) 0 [.ref 0, .int p1] h (some (.int r)) h0 := by
  refine Cn_of (L := [some (.ref 0), some (.int p1), none]) (by decide +kernel) (by simp [lg_sl, Value.category]) (fun ad => by simp [lg_sl, tv, Value.category]) (⟨rfl, ⟨rfl, trivial⟩⟩) ?_
  unfold fX11_sign at H
  refine j_aload_n (pc := 0) dX11_sign_0 rfl ?_
  refine j_getI (pc := 1) dX11_sign_1 flX11_213 rfl ?_
  refine j_iconst (pc := 4) (v := 4) dX11_sign_4 (by decide) ?_
  refine j_iadd (pc := 5) dX11_sign_5 ?_
  refine j_bipush (pc := 6) (v := 80) dX11_sign_6 (by decide) ?_
  refine j_icmp_le (pc := 8) (tgt := 13) dX11_sign_8 (by decide) (fun c1 => ?_) (fun c1 => ?_)
  · rw [if_pos c1] at H
    refine j_bipush (pc := 13) (v := 24) dX11_sign_13 (by decide) ?_
    refine j_istore_n (pc := 15) (L' := [some (.ref 0), some (.int p1), some (.int (24 : Int32))]) dX11_sign_15 (by decide) rfl ?_
    refine Jx.sub (L' := [some (.ref 0), some (.int p1), some (.int (24 : Int32))]) (⟨rfl, ⟨rfl, ⟨rfl, trivial⟩⟩⟩) ?_
    exact jX11_sign_16 FU p1 (24 : Int32) h H
  · rw [if_neg c1] at H
    refine j_iconst (pc := 11) (v := -1) dX11_sign_11 (by decide) ?_
    exact j_ireturn (pc := 12) dX11_sign_12 rfl (ri_1 H) (ri_2 H)

noncomputable def fX11_end (p1 : Int32) (h : HS) : Option (Int32 × HS) := bd (fX11_between p1 (0 : Int32) ((gI h 0 5)) h) (fun r2 h1 => if r2 = 0 then (some ((0 : Int32), h1)) else (nm (pI h1 0 5 p1) (fun h4 => some ((1 : Int32), h4))))
set_option maxRecDepth 100000 in
theorem tX11_end {p1 : Int32} {r : Int32} {h h0 : HS} (H : fX11_end p1 h = some (r, h0)) : Cn skC yX11_end cX11_end 2 (some .boolean) 1 [.ref 0, .int p1] h (some (.int r)) h0 := by
  refine Cn_of (L := [some (.ref 0), some (.int p1)]) (by decide +kernel) (by simp [lg_sl, Value.category]) (fun ad => by simp [lg_sl, tv, Value.category]) (⟨rfl, ⟨rfl, trivial⟩⟩) ?_
  unfold fX11_end at H
  refine j_iload_n (pc := 0) dX11_end_0 rfl ?_
  refine j_iconst (pc := 1) (v := 0) dX11_end_1 (by decide) ?_
  refine j_aload_n (pc := 2) dX11_end_2 rfl ?_
  refine j_getI (pc := 3) dX11_end_3 flX11_213 rfl ?_
  obtain ⟨r2, h1, eh1, H⟩ := bd_x H
  refine j_callS (pc := 6) dX11_end_6 mlX11_81 wyX11_between (tX11_between eh1) (by decide) rfl (by simp [Value.category]) rfl ?_
  refine j_if_ne (pc := 9) (tgt := 14) dX11_end_9 (by decide) (fun c3 => ?_) (fun c3 => ?_)
  · rw [if_neg c3] at H
    refine j_aload_n (pc := 14) dX11_end_14 rfl ?_
    refine j_iload_n (pc := 15) dX11_end_15 rfl ?_
    obtain ⟨h4, eh4, H⟩ := nm_x H
    refine j_putI (pc := 16) dX11_end_16 fpX11_213 rfl h4 eh4 ?_
    refine j_iconst (pc := 19) (v := 1) dX11_end_19 (by decide) ?_
    exact j_zreturn (pc := 20) dX11_end_20 rfl (rz1 H) (ri_2 H)
  · rw [if_pos c3] at H
    refine j_iconst (pc := 12) (v := 0) dX11_end_12 (by decide) ?_
    exact j_zreturn (pc := 13) dX11_end_13 rfl (rz0 H) (ri_2 H)

noncomputable def fX11_book (h : HS) : Option (Int32 × HS) := bd (fX1_read 16 ((gI h 0 5)) h) (fun r2 h1 => nm (pI h1 0 5 (0 : Int32)) (fun h3 => if r2 = (-1 : Int32) then (some ((gI h3 5 5), h3)) else (some (((-1 : Int32) - r2), h3))))
set_option maxRecDepth 100000 in
theorem tX11_book {r : Int32} {h h0 : HS} (H : fX11_book h = some (r, h0)) : Cn skC yX11_book cX11_book 2 (some .int) 33 [.ref 0] h (some (.int r)) h0 := by
  refine Cn_of (L := [some (.ref 0), none]) (by decide +kernel) (by simp [lg_sl, Value.category]) (fun ad => by simp [lg_sl, tv, Value.category]) (⟨rfl, trivial⟩) ?_
  unfold fX11_book at H
  refine j_aload_n (pc := 0) dX11_book_0 rfl ?_
  refine j_getR (pc := 1) (b := 5) dX11_book_1 flX11_42 rfl ?_
  refine j_aload_n (pc := 4) dX11_book_4 rfl ?_
  refine j_getR (pc := 5) (b := 16) dX11_book_5 flX11_33 rfl ?_
  refine j_aload_n (pc := 8) dX11_book_8 rfl ?_
  refine j_getI (pc := 9) dX11_book_9 flX11_213 rfl ?_
  obtain ⟨r2, h1, eh1, H⟩ := bd_x H
  refine j_callV (pc := 12) dX11_book_12 mlX11_216 wyX1_read (tX1_read eh1) (by decide) rfl rfl rfl rfl (by simp [Value.category]) rfl ?_
  refine j_istore_n (pc := 15) (L' := [some (.ref 0), some (.int r2)]) dX11_book_15 (by decide) rfl ?_
  refine j_aload_n (pc := 16) dX11_book_16 rfl ?_
  refine j_iconst (pc := 17) (v := 0) dX11_book_17 (by decide) ?_
  obtain ⟨h3, eh3, H⟩ := nm_x H
  refine j_putI (pc := 18) dX11_book_18 fpX11_213 rfl h3 eh3 ?_
  refine j_iload_n (pc := 21) dX11_book_21 rfl ?_
  refine j_iconst (pc := 22) (v := -1) dX11_book_22 (by decide) ?_
  refine j_icmp_ne (pc := 23) (tgt := 36) dX11_book_23 (by decide) (fun c4 => ?_) (fun c4 => ?_)
  · rw [if_neg c4] at H
    refine j_iconst (pc := 36) (v := -1) dX11_book_36 (by decide) ?_
    refine j_iload_n (pc := 37) dX11_book_37 rfl ?_
    refine j_isub (pc := 38) dX11_book_38 ?_
    exact j_ireturn (pc := 39) dX11_book_39 rfl (ri_1 H) (ri_2 H)
  · rw [if_pos c4] at H
    refine j_aload_n (pc := 26) dX11_book_26 rfl ?_
    refine j_getR (pc := 27) (b := 5) dX11_book_27 flX11_42 rfl ?_
    refine j_getI (pc := 30) dX11_book_30 flX11_220 rfl ?_
    refine j_goto (pc := 33) (tgt := 39) dX11_book_33 (by decide) ?_
    exact j_ireturn (pc := 39) dX11_book_39 rfl (ri_1 H) (ri_2 H)

noncomputable def fX11_line (p1 : Int32) (h : HS) : Option (Int32 × HS) := bd (fX11_between p1 (0 : Int32) (((gI h 5 5) - (1 : Int32))) h) (fun r2 h1 => if r2 = 0 then none else (bd (fX1_valueOf p1 h1) (fun r5 h4 => some (r5, h4))))
set_option maxRecDepth 100000 in
theorem tX11_line {p1 : Int32} {r : Int32} {h h0 : HS} (H : fX11_line p1 h = some (r, h0)) : Cn skC yX11_line cX11_line 2 (some .int) 32 [.ref 0, .int p1] h (some (.int r)) h0 := by
  refine Cn_of (L := [some (.ref 0), some (.int p1)]) (by decide +kernel) (by simp [lg_sl, Value.category]) (fun ad => by simp [lg_sl, tv, Value.category]) (⟨rfl, ⟨rfl, trivial⟩⟩) ?_
  unfold fX11_line at H
  refine j_iload_n (pc := 0) dX11_line_0 rfl ?_
  refine j_iconst (pc := 1) (v := 0) dX11_line_1 (by decide) ?_
  refine j_aload_n (pc := 2) dX11_line_2 rfl ?_
  refine j_getR (pc := 3) (b := 5) dX11_line_3 flX11_42 rfl ?_
  refine j_getI (pc := 6) dX11_line_6 flX11_220 rfl ?_
  refine j_iconst (pc := 9) (v := 1) dX11_line_9 (by decide) ?_
  refine j_isub (pc := 10) dX11_line_10 ?_
  obtain ⟨r2, h1, eh1, H⟩ := bd_x H
  refine j_callS (pc := 11) dX11_line_11 mlX11_81 wyX11_between (tX11_between eh1) (by decide) rfl (by simp [Value.category]) rfl ?_
  refine j_if_ne (pc := 14) (tgt := 27) dX11_line_14 (by decide) (fun c3 => ?_) (fun c3 => ?_)
  · rw [if_neg c3] at H
    refine j_aload_n (pc := 27) dX11_line_27 rfl ?_
    refine j_getR (pc := 28) (b := 5) dX11_line_28 flX11_42 rfl ?_
    refine j_iload_n (pc := 31) dX11_line_31 rfl ?_
    obtain ⟨r5, h4, eh4, H⟩ := bd_x H
    refine j_callV (pc := 32) dX11_line_32 mlX11_225 wyX1_valueOf (tX1_valueOf eh4) (by decide) rfl rfl rfl rfl (by simp [Value.category]) rfl ?_
    exact j_ireturn (pc := 35) dX11_line_35 rfl (ri_1 H) (ri_2 H)
  · rw [if_pos c3] at H
    cases H

noncomputable def fX11_morning_17 : Nat → Int32 → Int32 → HS → Option (Int32 × HS)
  | 0, _, _, _ => none
  | n + 1, v1, v2, h => if (gI h 5 5) ≤ v2 then (bv (fX6_add ((gI h 5 9)) h) (fun h5 => bv (fX6_add ((gI h5 5 10)) h5) (fun h6 => some (v1, h6)))) else (ck (inb v2 15) (bv (fX6_add ((gI h 39 v2.toNatClampNeg)) h) (fun h8 => nm (v2 + (1 : Int32)) (fun v2_9 => fX11_morning_17 n v1 v2_9 h8))))
set_option maxRecDepth 100000 in
theorem jX11_morning_17 {r : Int32} {h0 : HS} : ∀ (n : Nat) (v1 : Int32) (v2 : Int32) (h : HS), fX11_morning_17 n v1 v2 h = some (r, h0) → Jx skC RX11 cX11_morning 3 (some .int) 33 (some (.int r)) h0 17 [some (.ref 0), some (.int v1), some (.int v2)] [] h := by
  intro n
  induction n with
  | zero => intro v1 v2  h H; cases H
  | succ n ih =>
    intro v1 v2  h H
    rw [fX11_morning_17] at H
    refine j_iload_n (pc := 17) dX11_morning_17 rfl ?_
    refine j_aload_n (pc := 18) dX11_morning_18 rfl ?_
    refine j_getR (pc := 19) (b := 5) dX11_morning_19 flX11_42 rfl ?_
    refine j_getI (pc := 22) dX11_morning_22 flX11_220 rfl ?_
    refine j_icmp_ge (pc := 25) (tgt := 50) dX11_morning_25 (by decide) (fun c4 => ?_) (fun c4 => ?_)
    · rw [if_pos c4] at H
      refine j_aload_n (pc := 50) dX11_morning_50 rfl ?_
      refine j_getR (pc := 51) (b := 4) dX11_morning_51 flX11_29 rfl ?_
      refine j_aload_n (pc := 54) dX11_morning_54 rfl ?_
      refine j_getR (pc := 55) (b := 5) dX11_morning_55 flX11_42 rfl ?_
      refine j_getI (pc := 58) dX11_morning_58 flX11_234 rfl ?_
      obtain ⟨h5, eh5, H⟩ := bv_x H
      refine j_callV (pc := 61) dX11_morning_61 mlX11_210 wyX6_add (tX6_add eh5) (by decide) rfl rfl rfl rfl (by simp [Value.category]) rfl ?_
      refine j_aload_n (pc := 64) dX11_morning_64 rfl ?_
      refine j_getR (pc := 65) (b := 4) dX11_morning_65 flX11_29 rfl ?_
      refine j_aload_n (pc := 68) dX11_morning_68 rfl ?_
      refine j_getR (pc := 69) (b := 5) dX11_morning_69 flX11_42 rfl ?_
      refine j_getI (pc := 72) dX11_morning_72 flX11_237 rfl ?_
      obtain ⟨h6, eh6, H⟩ := bv_x H
      refine j_callV (pc := 75) dX11_morning_75 mlX11_210 wyX6_add (tX6_add eh6) (by decide) rfl rfl rfl rfl (by simp [Value.category]) rfl ?_
      refine j_iload_n (pc := 78) dX11_morning_78 rfl ?_
      exact j_ireturn (pc := 79) dX11_morning_79 rfl (ri_1 H) (ri_2 H)
    · rw [if_neg c4] at H
      refine j_aload_n (pc := 28) dX11_morning_28 rfl ?_
      refine j_getR (pc := 29) (b := 4) dX11_morning_29 flX11_29 rfl ?_
      refine j_aload_n (pc := 32) dX11_morning_32 rfl ?_
      refine j_getR (pc := 33) (b := 5) dX11_morning_33 flX11_42 rfl ?_
      refine j_getR (pc := 36) (b := 39) dX11_morning_36 flX11_231 rfl ?_
      refine j_iload_n (pc := 39) dX11_morning_39 rfl ?_
      obtain ⟨b7, H⟩ := ck_x H
      refine j_iaload (pc := 40) dX11_morning_40 rfl b7 rfl ?_
      obtain ⟨h8, eh8, H⟩ := bv_x H
      refine j_callV (pc := 41) dX11_morning_41 mlX11_210 wyX6_add (tX6_add eh8) (by decide) rfl rfl rfl rfl (by simp [Value.category]) rfl ?_
      obtain ⟨v2_9, ev2_9, H⟩ := nm_x H
      refine j_iinc (pc := 44) (L' := [some (.ref 0), some (.int v1), some (.int v2_9)]) (w := 1) dX11_morning_44 rfl (by decide) (by decide) v2_9 ev2_9 rfl ?_
      refine j_goto (pc := 47) (tgt := 17) dX11_morning_47 (by decide) ?_
      refine Jx.sub (L' := [some (.ref 0), some (.int v1), some (.int v2_9)]) (⟨rfl, ⟨rfl, ⟨rfl, trivial⟩⟩⟩) ?_
      exact ih v1 v2_9 h8 H
noncomputable def fX11_morning (h : HS) : Option (Int32 × HS) := bd (fX1_doMorning h) (fun r2 h1 => bv (fX6_empty h1) (fun h3 => fX11_morning_17 FU r2 (0 : Int32) h3))
set_option maxRecDepth 100000 in
theorem tX11_morning {r : Int32} {h h0 : HS} (H : fX11_morning h = some (r, h0)) : Cn skC yX11_morning cX11_morning 3 (some .int) 33 [.ref 0] h (some (.int r)) h0 := by
  refine Cn_of (L := [some (.ref 0), none, none]) (by decide +kernel) (by simp [lg_sl, Value.category]) (fun ad => by simp [lg_sl, tv, Value.category]) (⟨rfl, trivial⟩) ?_
  unfold fX11_morning at H
  refine j_aload_n (pc := 0) dX11_morning_0 rfl ?_
  refine j_getR (pc := 1) (b := 5) dX11_morning_1 flX11_42 rfl ?_
  obtain ⟨r2, h1, eh1, H⟩ := bd_x H
  refine j_callV (pc := 4) dX11_morning_4 mlX11_228 wyX1_doMorning (tX1_doMorning eh1) (by decide) rfl rfl rfl rfl (by simp [Value.category]) rfl ?_
  refine j_istore_n (pc := 7) (L' := [some (.ref 0), some (.int r2), none]) dX11_morning_7 (by decide) rfl ?_
  refine j_aload_n (pc := 8) dX11_morning_8 rfl ?_
  refine j_getR (pc := 9) (b := 4) dX11_morning_9 flX11_29 rfl ?_
  obtain ⟨h3, eh3, H⟩ := bv_x H
  refine j_callV (pc := 12) dX11_morning_12 mlX11_207 wyX6_empty (tX6_empty eh3) (by decide) rfl rfl rfl rfl (by simp [Value.category]) rfl ?_
  refine j_iconst (pc := 15) (v := 0) dX11_morning_15 (by decide) ?_
  refine j_istore_n (pc := 16) (L' := [some (.ref 0), some (.int r2), some (.int (0 : Int32))]) dX11_morning_16 (by decide) rfl ?_
  refine Jx.sub (L' := [some (.ref 0), some (.int r2), some (.int (0 : Int32))]) (⟨rfl, ⟨rfl, ⟨rfl, trivial⟩⟩⟩) ?_
  exact jX11_morning_17 FU r2 (0 : Int32) h3 H

noncomputable def fX11_holds_133 (v2 : Int32) (v3 : Int32) (h : HS) : Option (Int32 × HS) := bv (fX4_restore h) (fun h27 => nm (pI h27 1 7 v2) (fun h28 => some (v3, h28)))
set_option maxRecDepth 100000 in
theorem jX11_holds_133 {r : Int32} {h0 : HS} (v2 : Int32) (v3 : Int32) (h : HS) (H : fX11_holds_133 v2 v3 h = some (r, h0)) : Jx skC RX11 cX11_holds 5 (some .int) 33 (some (.int r)) h0 133 [some (.ref 0), none, some (.int v2), some (.int v3), none] [] h := by
  unfold fX11_holds_133 at H
  refine j_aload_n (pc := 133) dX11_holds_133 rfl ?_
  refine j_getR (pc := 134) (b := 2) dX11_holds_134 flX11_20 rfl ?_
  obtain ⟨h27, eh27, H⟩ := bv_x H
  refine j_callV (pc := 137) dX11_holds_137 mlX11_249 wyX4_restore (tX4_restore eh27) (by decide) rfl rfl rfl rfl (by simp [Value.category]) rfl ?_
  refine j_aload_n (pc := 140) dX11_holds_140 rfl ?_
  refine j_getR (pc := 141) (b := 1) dX11_holds_141 flX11_10 rfl ?_
  refine j_iload_n (pc := 144) dX11_holds_144 rfl ?_
  obtain ⟨h28, eh28, H⟩ := nm_x H
  refine j_putI (pc := 145) dX11_holds_145 fpX11_240 rfl h28 eh28 ?_
  refine j_iload_n (pc := 148) dX11_holds_148 rfl ?_
  exact j_ireturn (pc := 149) dX11_holds_149 rfl (ri_1 H) (ri_2 H)
noncomputable def fX11_holds_30 : Nat → Int32 → Int32 → Int32 → Int32 → HS → Option (Int32 × HS)
  | 0, _, _, _, _, _ => none
  | n + 1, v1, v2, v3, v4, h => if (400 : Int32) < v4 then (fX11_holds_133 v2 v3 h) else (if v3 = (-2 : Int32) then (bd (fX1_doMorning h) (fun r9 h8 => bd (fX0_isBalanced v1 h8) (fun r11 h10 => if r11 = 0 then (bv (fX6_empty h10) (fun h13 => bd (fX0_heavyAt v1 h13) (fun r15 h14 => bv (fX6_add r15 h14) (fun h16 => bd (fX0_momentNow h16) (fun r18 h17 => bv (fX6_add r18 h17) (fun h19 => bd (fX0_listNow h19) (fun r21 h20 => bv (fX6_add r21 h20) (fun h22 => nm (v4 + (1 : Int32)) (fun v4_23 => fX11_holds_30 n v1 v2 v4 v4_23 h22))))))))) else (bd (fX8_goDay h10) (fun r25 h24 => nm (v4 + (1 : Int32)) (fun v4_26 => fX11_holds_30 n v1 v2 v3 v4_26 h24)))))) else (fX11_holds_133 v2 v3 h))
set_option maxRecDepth 100000 in
theorem jX11_holds_30 {r : Int32} {h0 : HS} : ∀ (n : Nat) (v1 : Int32) (v2 : Int32) (v3 : Int32) (v4 : Int32) (h : HS), fX11_holds_30 n v1 v2 v3 v4 h = some (r, h0) → Jx skC RX11 cX11_holds 5 (some .int) 33 (some (.int r)) h0 30 [some (.ref 0), some (.int v1), some (.int v2), some (.int v3), some (.int v4)] [] h := by
  intro n
  induction n with
  | zero => intro v1 v2 v3 v4  h H; cases H
  | succ n ih =>
    intro v1 v2 v3 v4  h H
    rw [fX11_holds_30] at H
    refine j_iload (pc := 30) dX11_holds_30 rfl ?_
    refine j_sipush (pc := 32) (v := 400) dX11_holds_32 (by decide) ?_
    refine j_icmp_gt (pc := 35) (tgt := 133) dX11_holds_35 (by decide) (fun c6 => ?_) (fun c6 => ?_)
    · rw [if_pos c6] at H
      refine Jx.sub (L' := [some (.ref 0), none, some (.int v2), some (.int v3), none]) (⟨rfl, ⟨rfl, ⟨rfl, trivial⟩⟩⟩) ?_
      exact jX11_holds_133 v2 v3 h H
    · rw [if_neg c6] at H
      refine j_iload_n (pc := 38) dX11_holds_38 rfl ?_
      refine j_bipush (pc := 39) (v := -2) dX11_holds_39 (by decide) ?_
      refine j_icmp_ne (pc := 41) (tgt := 133) dX11_holds_41 (by decide) (fun c7 => ?_) (fun c7 => ?_)
      · rw [if_neg c7] at H
        refine Jx.sub (L' := [some (.ref 0), none, some (.int v2), some (.int v3), none]) (⟨rfl, ⟨rfl, ⟨rfl, trivial⟩⟩⟩) ?_
        exact jX11_holds_133 v2 v3 h H
      · rw [if_pos c7] at H
        refine j_aload_n (pc := 44) dX11_holds_44 rfl ?_
        refine j_getR (pc := 45) (b := 5) dX11_holds_45 flX11_42 rfl ?_
        obtain ⟨r9, h8, eh8, H⟩ := bd_x H
        refine j_callV (pc := 48) dX11_holds_48 mlX11_228 wyX1_doMorning (tX1_doMorning eh8) (by decide) rfl rfl rfl rfl (by simp [Value.category]) rfl ?_
        refine j_pop (pc := 51) dX11_holds_51 rfl ?_
        refine j_aload_n (pc := 52) dX11_holds_52 rfl ?_
        refine j_getR (pc := 53) (b := 1) dX11_holds_53 flX11_10 rfl ?_
        refine j_iload_n (pc := 56) dX11_holds_56 rfl ?_
        obtain ⟨r11, h10, eh10, H⟩ := bd_x H
        refine j_callV (pc := 57) dX11_holds_57 mlX11_187 wyX0_isBalanced (tX0_isBalanced eh10) (by decide) rfl rfl rfl rfl (by simp [Value.category]) rfl ?_
        refine j_if_eq (pc := 60) (tgt := 74) dX11_holds_60 (by decide) (fun c12 => ?_) (fun c12 => ?_)
        · rw [if_pos c12] at H
          refine j_iload (pc := 74) dX11_holds_74 rfl ?_
          refine j_istore_n (pc := 76) (L' := [some (.ref 0), some (.int v1), some (.int v2), some (.int v4), some (.int v4)]) dX11_holds_76 (by decide) rfl ?_
          refine j_aload_n (pc := 77) dX11_holds_77 rfl ?_
          refine j_getR (pc := 78) (b := 4) dX11_holds_78 flX11_29 rfl ?_
          obtain ⟨h13, eh13, H⟩ := bv_x H
          refine j_callV (pc := 81) dX11_holds_81 mlX11_207 wyX6_empty (tX6_empty eh13) (by decide) rfl rfl rfl rfl (by simp [Value.category]) rfl ?_
          refine j_aload_n (pc := 84) dX11_holds_84 rfl ?_
          refine j_getR (pc := 85) (b := 4) dX11_holds_85 flX11_29 rfl ?_
          refine j_aload_n (pc := 88) dX11_holds_88 rfl ?_
          refine j_getR (pc := 89) (b := 1) dX11_holds_89 flX11_10 rfl ?_
          refine j_iload_n (pc := 92) dX11_holds_92 rfl ?_
          obtain ⟨r15, h14, eh14, H⟩ := bd_x H
          refine j_callV (pc := 93) dX11_holds_93 mlX11_174 wyX0_heavyAt (tX0_heavyAt eh14) (by decide) rfl rfl rfl rfl (by simp [Value.category]) rfl ?_
          obtain ⟨h16, eh16, H⟩ := bv_x H
          refine j_callV (pc := 96) dX11_holds_96 mlX11_210 wyX6_add (tX6_add eh16) (by decide) rfl rfl rfl rfl (by simp [Value.category]) rfl ?_
          refine j_aload_n (pc := 99) dX11_holds_99 rfl ?_
          refine j_getR (pc := 100) (b := 4) dX11_holds_100 flX11_29 rfl ?_
          refine j_aload_n (pc := 103) dX11_holds_103 rfl ?_
          refine j_getR (pc := 104) (b := 1) dX11_holds_104 flX11_10 rfl ?_
          obtain ⟨r18, h17, eh17, H⟩ := bd_x H
          refine j_callV (pc := 107) dX11_holds_107 mlX11_180 wyX0_momentNow (tX0_momentNow eh17) (by decide) rfl rfl rfl rfl (by simp [Value.category]) rfl ?_
          obtain ⟨h19, eh19, H⟩ := bv_x H
          refine j_callV (pc := 110) dX11_holds_110 mlX11_210 wyX6_add (tX6_add eh19) (by decide) rfl rfl rfl rfl (by simp [Value.category]) rfl ?_
          refine j_aload_n (pc := 113) dX11_holds_113 rfl ?_
          refine j_getR (pc := 114) (b := 4) dX11_holds_114 flX11_29 rfl ?_
          refine j_aload_n (pc := 117) dX11_holds_117 rfl ?_
          refine j_getR (pc := 118) (b := 1) dX11_holds_118 flX11_10 rfl ?_
          obtain ⟨r21, h20, eh20, H⟩ := bd_x H
          refine j_callV (pc := 121) dX11_holds_121 mlX11_184 wyX0_listNow (tX0_listNow eh20) (by decide) rfl rfl rfl rfl (by simp [Value.category]) rfl ?_
          obtain ⟨h22, eh22, H⟩ := bv_x H
          refine j_callV (pc := 124) dX11_holds_124 mlX11_210 wyX6_add (tX6_add eh22) (by decide) rfl rfl rfl rfl (by simp [Value.category]) rfl ?_
          obtain ⟨v4_23, ev4_23, H⟩ := nm_x H
          refine j_iinc (pc := 127) (L' := [some (.ref 0), some (.int v1), some (.int v2), some (.int v4), some (.int v4_23)]) (w := 1) dX11_holds_127 rfl (by decide) (by decide) v4_23 ev4_23 rfl ?_
          refine j_goto (pc := 130) (tgt := 30) dX11_holds_130 (by decide) ?_
          refine Jx.sub (L' := [some (.ref 0), some (.int v1), some (.int v2), some (.int v4), some (.int v4_23)]) (⟨rfl, ⟨rfl, ⟨rfl, ⟨rfl, ⟨rfl, trivial⟩⟩⟩⟩⟩) ?_
          exact ih v1 v2 v4 v4_23 h22 H
        · rw [if_neg c12] at H
          refine j_aload_n (pc := 63) dX11_holds_63 rfl ?_
          refine j_getR (pc := 64) (b := 9) dX11_holds_64 flX11_70 rfl ?_
          obtain ⟨r25, h24, eh24, H⟩ := bd_x H
          refine j_callV (pc := 67) dX11_holds_67 mlX11_246 wyX8_goDay (tX8_goDay eh24) (by decide) rfl rfl rfl rfl (by simp [Value.category]) rfl ?_
          refine j_pop (pc := 70) dX11_holds_70 rfl ?_
          refine j_goto (pc := 71) (tgt := 127) dX11_holds_71 (by decide) ?_
          obtain ⟨v4_26, ev4_26, H⟩ := nm_x H
          refine j_iinc (pc := 127) (L' := [some (.ref 0), some (.int v1), some (.int v2), some (.int v3), some (.int v4_26)]) (w := 1) dX11_holds_127 rfl (by decide) (by decide) v4_26 ev4_26 rfl ?_
          refine j_goto (pc := 130) (tgt := 30) dX11_holds_130 (by decide) ?_
          refine Jx.sub (L' := [some (.ref 0), some (.int v1), some (.int v2), some (.int v3), some (.int v4_26)]) (⟨rfl, ⟨rfl, ⟨rfl, ⟨rfl, ⟨rfl, trivial⟩⟩⟩⟩⟩) ?_
          exact ih v1 v2 v3 v4_26 h24 H
noncomputable def fX11_holds (p1 : Int32) (h : HS) : Option (Int32 × HS) := bd (fX11_isDepth p1 h) (fun r2 h1 => if r2 = 0 then (some ((-1 : Int32), h1)) else (nm ((gI h1 1 7)) (fun v2_4 => bv (fX4_save h1) (fun h5 => fX11_holds_30 FU p1 v2_4 (-2 : Int32) (0 : Int32) h5))))
set_option maxRecDepth 100000 in
theorem tX11_holds {p1 : Int32} {r : Int32} {h h0 : HS} (H : fX11_holds p1 h = some (r, h0)) : Cn skC yX11_holds cX11_holds 5 (some .int) 33 [.ref 0, .int p1] h (some (.int r)) h0 := by
  refine Cn_of (L := [some (.ref 0), some (.int p1), none, none, none]) (by decide +kernel) (by simp [lg_sl, Value.category]) (fun ad => by simp [lg_sl, tv, Value.category]) (⟨rfl, ⟨rfl, trivial⟩⟩) ?_
  unfold fX11_holds at H
  refine j_iload_n (pc := 0) dX11_holds_0 rfl ?_
  obtain ⟨r2, h1, eh1, H⟩ := bd_x H
  refine j_callS (pc := 1) dX11_holds_1 mlX11_142 wyX11_isDepth (tX11_isDepth eh1) (by decide) rfl (by simp [Value.category]) rfl ?_
  refine j_if_ne (pc := 4) (tgt := 9) dX11_holds_4 (by decide) (fun c3 => ?_) (fun c3 => ?_)
  · rw [if_neg c3] at H
    refine j_aload_n (pc := 9) dX11_holds_9 rfl ?_
    refine j_getR (pc := 10) (b := 1) dX11_holds_10 flX11_10 rfl ?_
    refine j_getI (pc := 13) dX11_holds_13 flX11_240 rfl ?_
    obtain ⟨v2_4, ev2_4, H⟩ := nm_x H
    refine j_topi ev2_4 ?_
    refine j_istore_n (pc := 16) (L' := [some (.ref 0), some (.int p1), some (.int v2_4), none, none]) dX11_holds_16 (by decide) rfl ?_
    refine j_aload_n (pc := 17) dX11_holds_17 rfl ?_
    refine j_getR (pc := 18) (b := 2) dX11_holds_18 flX11_20 rfl ?_
    obtain ⟨h5, eh5, H⟩ := bv_x H
    refine j_callV (pc := 21) dX11_holds_21 mlX11_243 wyX4_save (tX4_save eh5) (by decide) rfl rfl rfl rfl (by simp [Value.category]) rfl ?_
    refine j_bipush (pc := 24) (v := -2) dX11_holds_24 (by decide) ?_
    refine j_istore_n (pc := 26) (L' := [some (.ref 0), some (.int p1), some (.int v2_4), some (.int (-2 : Int32)), none]) dX11_holds_26 (by decide) rfl ?_
    refine j_iconst (pc := 27) (v := 0) dX11_holds_27 (by decide) ?_
    refine j_istore (pc := 28) (L' := [some (.ref 0), some (.int p1), some (.int v2_4), some (.int (-2 : Int32)), some (.int (0 : Int32))]) dX11_holds_28 (by decide) rfl ?_
    refine Jx.sub (L' := [some (.ref 0), some (.int p1), some (.int v2_4), some (.int (-2 : Int32)), some (.int (0 : Int32))]) (⟨rfl, ⟨rfl, ⟨rfl, ⟨rfl, ⟨rfl, trivial⟩⟩⟩⟩⟩) ?_
    exact jX11_holds_30 FU p1 v2_4 (-2 : Int32) (0 : Int32) h5 H
  · rw [if_pos c3] at H
    refine j_iconst (pc := 7) (v := -1) dX11_holds_7 (by decide) ?_
    exact j_ireturn (pc := 8) dX11_holds_8 rfl (ri_1 H) (ri_2 H)

noncomputable def fX11_liar_196 (k63 : Int64 → Int64 → Int64 → Int32 → Int32 → HS → Option (Int32 × HS)) (v5 : Int64) (v7 : Int64) (v9 : Int64) (v12 : Int32) (s1 : Int32) (s0 : Int32) (h : HS) : Option (Int32 × HS) := nm ((s0 ||| s1)) (fun v11_27 => nm (v12 + (1 : Int32)) (fun v12_28 => k63 v5 v7 v9 v11_27 v12_28 h))
set_option maxRecDepth 100000 in
theorem jX11_liar_196 {r : Int32} {h0 : HS} (k63 : Int64 → Int64 → Int64 → Int32 → Int32 → HS → Option (Int32 × HS)) (hk63 : ∀ (v5 : Int64) (v7 : Int64) (v9 : Int64) (v11 : Int32) (v12 : Int32) (h : HS), k63 v5 v7 v9 v11 v12 h = some (r, h0) → Jx skC RX11 cX11_liar 16 (some .int) 3 (some (.int r)) h0 63 [some (.ref 0), none, none, none, none, some (.long v5), none, some (.long v7), none, some (.long v9), none, some (.int v11), some (.int v12), none, none, none] [] h) (v5 : Int64) (v7 : Int64) (v9 : Int64) (v12 : Int32) (s1 : Int32) (s0 : Int32) (h : HS) (H : fX11_liar_196 k63 v5 v7 v9 v12 s1 s0 h = some (r, h0)) : Jx skC RX11 cX11_liar 16 (some .int) 3 (some (.int r)) h0 196 [some (.ref 0), none, none, none, none, some (.long v5), none, some (.long v7), none, some (.long v9), none, none, some (.int v12), none, none, none] [.int s1, .int s0] h := by
  unfold fX11_liar_196 at H
  refine j_ior (pc := 196) dX11_liar_196 ?_
  obtain ⟨v11_27, ev11_27, H⟩ := nm_x H
  refine j_topi ev11_27 ?_
  refine j_istore (pc := 197) (L' := [some (.ref 0), none, none, none, none, some (.long v5), none, some (.long v7), none, some (.long v9), none, some (.int v11_27), some (.int v12), none, none, none]) dX11_liar_197 (by decide) rfl ?_
  obtain ⟨v12_28, ev12_28, H⟩ := nm_x H
  refine j_iinc (pc := 199) (L' := [some (.ref 0), none, none, none, none, some (.long v5), none, some (.long v7), none, some (.long v9), none, some (.int v11_27), some (.int v12_28), none, none, none]) (w := 1) dX11_liar_199 rfl (by decide) (by decide) v12_28 ev12_28 rfl ?_
  refine j_goto (pc := 202) (tgt := 63) dX11_liar_202 (by decide) ?_
  refine Jx.sub (L' := [some (.ref 0), none, none, none, none, some (.long v5), none, some (.long v7), none, some (.long v9), none, some (.int v11_27), some (.int v12_28), none, none, none]) (⟨rfl, ⟨rfl, ⟨rfl, ⟨rfl, ⟨rfl, ⟨rfl, trivial⟩⟩⟩⟩⟩⟩) ?_
  exact hk63 v5 v7 v9 v11_27 v12_28 h H
noncomputable def fX11_liar_178 (k63 : Int64 → Int64 → Int64 → Int32 → Int32 → HS → Option (Int32 × HS)) (v5 : Int64) (v7 : Int64) (v9 : Int64) (v11 : Int32) (v12 : Int32) (v15 : Int32) (s1 : Int32) (h : HS) : Option (Int32 × HS) := bv (fX6_add s1 h) (fun h25 => if v15 = 0 then (fX11_liar_196 k63 v5 v7 v9 v12 (0 : Int32) v11 h25) else (fX11_liar_196 k63 v5 v7 v9 v12 (((1 : Int32) <<< (v12 &&& 31))) v11 h25))
set_option maxRecDepth 100000 in
theorem jX11_liar_178 {r : Int32} {h0 : HS} (k63 : Int64 → Int64 → Int64 → Int32 → Int32 → HS → Option (Int32 × HS)) (hk63 : ∀ (v5 : Int64) (v7 : Int64) (v9 : Int64) (v11 : Int32) (v12 : Int32) (h : HS), k63 v5 v7 v9 v11 v12 h = some (r, h0) → Jx skC RX11 cX11_liar 16 (some .int) 3 (some (.int r)) h0 63 [some (.ref 0), none, none, none, none, some (.long v5), none, some (.long v7), none, some (.long v9), none, some (.int v11), some (.int v12), none, none, none] [] h) (v5 : Int64) (v7 : Int64) (v9 : Int64) (v11 : Int32) (v12 : Int32) (v15 : Int32) (s1 : Int32) (h : HS) (H : fX11_liar_178 k63 v5 v7 v9 v11 v12 v15 s1 h = some (r, h0)) : Jx skC RX11 cX11_liar 16 (some .int) 3 (some (.int r)) h0 178 [some (.ref 0), none, none, none, none, some (.long v5), none, some (.long v7), none, some (.long v9), none, some (.int v11), some (.int v12), none, none, some (.int v15)] [.int s1, .ref 4] h := by
  unfold fX11_liar_178 at H
  obtain ⟨h25, eh25, H⟩ := bv_x H
  refine j_callV (pc := 178) dX11_liar_178 mlX11_210 wyX6_add (tX6_add eh25) (by decide) rfl rfl rfl rfl (by simp [Value.category]) rfl ?_
  refine j_iload (pc := 181) dX11_liar_181 rfl ?_
  refine j_iload (pc := 183) dX11_liar_183 rfl ?_
  refine j_if_eq (pc := 185) (tgt := 195) dX11_liar_185 (by decide) (fun c26 => ?_) (fun c26 => ?_)
  · rw [if_pos c26] at H
    refine j_iconst (pc := 195) (v := 0) dX11_liar_195 (by decide) ?_
    refine Jx.sub (L' := [some (.ref 0), none, none, none, none, some (.long v5), none, some (.long v7), none, some (.long v9), none, none, some (.int v12), none, none, none]) (⟨rfl, ⟨rfl, ⟨rfl, ⟨rfl, ⟨rfl, trivial⟩⟩⟩⟩⟩) ?_
    exact jX11_liar_196 _ hk63 v5 v7 v9 v12 (0 : Int32) v11 h25 H
  · rw [if_neg c26] at H
    refine j_iconst (pc := 188) (v := 1) dX11_liar_188 (by decide) ?_
    refine j_iload (pc := 189) dX11_liar_189 rfl ?_
    refine j_ishl (pc := 191) dX11_liar_191 ?_
    refine j_goto (pc := 192) (tgt := 196) dX11_liar_192 (by decide) ?_
    refine Jx.sub (L' := [some (.ref 0), none, none, none, none, some (.long v5), none, some (.long v7), none, some (.long v9), none, none, some (.int v12), none, none, none]) (⟨rfl, ⟨rfl, ⟨rfl, ⟨rfl, ⟨rfl, trivial⟩⟩⟩⟩⟩) ?_
    exact jX11_liar_196 _ hk63 v5 v7 v9 v12 (((1 : Int32) <<< (v12 &&& 31))) v11 h25 H
noncomputable def fX11_liar_160 (k63 : Int64 → Int64 → Int64 → Int32 → Int32 → HS → Option (Int32 × HS)) (v5 : Int64) (v7 : Int64) (v9 : Int64) (v11 : Int32) (v12 : Int32) (v13 : Int64) (s0 : Int32) (h : HS) : Option (Int32 × HS) := if s0 = 0 then (fX11_liar_178 k63 v5 v7 v9 v11 v12 s0 (-1 : Int32) h) else (fX11_liar_178 k63 v5 v7 v9 v11 v12 s0 ((v13.toInt32)) h)
set_option maxRecDepth 100000 in
theorem jX11_liar_160 {r : Int32} {h0 : HS} (k63 : Int64 → Int64 → Int64 → Int32 → Int32 → HS → Option (Int32 × HS)) (hk63 : ∀ (v5 : Int64) (v7 : Int64) (v9 : Int64) (v11 : Int32) (v12 : Int32) (h : HS), k63 v5 v7 v9 v11 v12 h = some (r, h0) → Jx skC RX11 cX11_liar 16 (some .int) 3 (some (.int r)) h0 63 [some (.ref 0), none, none, none, none, some (.long v5), none, some (.long v7), none, some (.long v9), none, some (.int v11), some (.int v12), none, none, none] [] h) (v5 : Int64) (v7 : Int64) (v9 : Int64) (v11 : Int32) (v12 : Int32) (v13 : Int64) (s0 : Int32) (h : HS) (H : fX11_liar_160 k63 v5 v7 v9 v11 v12 v13 s0 h = some (r, h0)) : Jx skC RX11 cX11_liar 16 (some .int) 3 (some (.int r)) h0 160 [some (.ref 0), none, none, none, none, some (.long v5), none, some (.long v7), none, some (.long v9), none, some (.int v11), some (.int v12), some (.long v13), none, none] [.int s0] h := by
  unfold fX11_liar_160 at H
  refine j_istore (pc := 160) (L' := [some (.ref 0), none, none, none, none, some (.long v5), none, some (.long v7), none, some (.long v9), none, some (.int v11), some (.int v12), some (.long v13), none, some (.int s0)]) dX11_liar_160 (by decide) rfl ?_
  refine j_aload_n (pc := 162) dX11_liar_162 rfl ?_
  refine j_getR (pc := 163) (b := 4) dX11_liar_163 flX11_29 rfl ?_
  refine j_iload (pc := 166) dX11_liar_166 rfl ?_
  refine j_if_eq (pc := 168) (tgt := 177) dX11_liar_168 (by decide) (fun c24 => ?_) (fun c24 => ?_)
  · rw [if_pos c24] at H
    refine j_iconst (pc := 177) (v := -1) dX11_liar_177 (by decide) ?_
    refine Jx.sub (L' := [some (.ref 0), none, none, none, none, some (.long v5), none, some (.long v7), none, some (.long v9), none, some (.int v11), some (.int v12), none, none, some (.int s0)]) (⟨rfl, ⟨rfl, ⟨rfl, ⟨rfl, ⟨rfl, ⟨rfl, ⟨rfl, trivial⟩⟩⟩⟩⟩⟩⟩) ?_
    exact jX11_liar_178 _ hk63 v5 v7 v9 v11 v12 s0 (-1 : Int32) h H
  · rw [if_neg c24] at H
    refine j_lload (pc := 171) dX11_liar_171 rfl ?_
    refine j_l2i (pc := 173) dX11_liar_173 ?_
    refine j_goto (pc := 174) (tgt := 178) dX11_liar_174 (by decide) ?_
    refine Jx.sub (L' := [some (.ref 0), none, none, none, none, some (.long v5), none, some (.long v7), none, some (.long v9), none, some (.int v11), some (.int v12), none, none, some (.int s0)]) (⟨rfl, ⟨rfl, ⟨rfl, ⟨rfl, ⟨rfl, ⟨rfl, ⟨rfl, trivial⟩⟩⟩⟩⟩⟩⟩) ?_
    exact jX11_liar_178 _ hk63 v5 v7 v9 v11 v12 s0 ((v13.toInt32)) h H
noncomputable def fX11_liar_159 (k63 : Int64 → Int64 → Int64 → Int32 → Int32 → HS → Option (Int32 × HS)) (v5 : Int64) (v7 : Int64) (v9 : Int64) (v11 : Int32) (v12 : Int32) (v13 : Int64) (h : HS) : Option (Int32 × HS) := fX11_liar_160 k63 v5 v7 v9 v11 v12 v13 (0 : Int32) h
set_option maxRecDepth 100000 in
theorem jX11_liar_159 {r : Int32} {h0 : HS} (k63 : Int64 → Int64 → Int64 → Int32 → Int32 → HS → Option (Int32 × HS)) (hk63 : ∀ (v5 : Int64) (v7 : Int64) (v9 : Int64) (v11 : Int32) (v12 : Int32) (h : HS), k63 v5 v7 v9 v11 v12 h = some (r, h0) → Jx skC RX11 cX11_liar 16 (some .int) 3 (some (.int r)) h0 63 [some (.ref 0), none, none, none, none, some (.long v5), none, some (.long v7), none, some (.long v9), none, some (.int v11), some (.int v12), none, none, none] [] h) (v5 : Int64) (v7 : Int64) (v9 : Int64) (v11 : Int32) (v12 : Int32) (v13 : Int64) (h : HS) (H : fX11_liar_159 k63 v5 v7 v9 v11 v12 v13 h = some (r, h0)) : Jx skC RX11 cX11_liar 16 (some .int) 3 (some (.int r)) h0 159 [some (.ref 0), none, none, none, none, some (.long v5), none, some (.long v7), none, some (.long v9), none, some (.int v11), some (.int v12), some (.long v13), none, none] [] h := by
  unfold fX11_liar_159 at H
  refine j_iconst (pc := 159) (v := 0) dX11_liar_159 (by decide) ?_
  refine Jx.sub (L' := [some (.ref 0), none, none, none, none, some (.long v5), none, some (.long v7), none, some (.long v9), none, some (.int v11), some (.int v12), some (.long v13), none, none]) (⟨rfl, ⟨rfl, ⟨rfl, ⟨rfl, ⟨rfl, ⟨rfl, ⟨rfl, trivial⟩⟩⟩⟩⟩⟩⟩) ?_
  exact jX11_liar_160 _ hk63 v5 v7 v9 v11 v12 v13 (0 : Int32) h H
noncomputable def fX11_liar_63 : Nat → Int64 → Int64 → Int64 → Int32 → Int32 → HS → Option (Int32 × HS)
  | 0, _, _, _, _, _, _ => none
  | n + 1, v5, v7, v9, v11, v12, h => if (gI h 2 8) ≤ v12 then (some (v11, h)) else (ck (inb v12 15) (nm ((((gI h 30 v12.toNatClampNeg).toInt64) + v5)) (fun v13_16 => if (lg_cmp v13_16 (0 : Int64)) < 0 then (fX11_liar_159 (fX11_liar_63 n) v5 v7 v9 v11 v12 v13_16 h) else (ck (inb v12 15) (if 0 < (lg_cmp v13_16 ((gI h 29 v12.toNatClampNeg).toInt64)) then (fX11_liar_159 (fX11_liar_63 n) v5 v7 v9 v11 v12 v13_16 h) else (ck (inb v12 15) (if (lg_cmp (((gI h 27 v12.toNatClampNeg).toInt64) * v5) v7) = 0 then (ck (inb v12 15) (if (lg_cmp (((gI h 28 v12.toNatClampNeg).toInt64) * v5) v9) = 0 then (fX11_liar_160 (fX11_liar_63 n) v5 v7 v9 v11 v12 v13_16 (1 : Int32) h) else (fX11_liar_159 (fX11_liar_63 n) v5 v7 v9 v11 v12 v13_16 h))) else (fX11_liar_159 (fX11_liar_63 n) v5 v7 v9 v11 v12 v13_16 h))))))))
set_option maxRecDepth 100000 in
theorem jX11_liar_63 {r : Int32} {h0 : HS} : ∀ (n : Nat) (v5 : Int64) (v7 : Int64) (v9 : Int64) (v11 : Int32) (v12 : Int32) (h : HS), fX11_liar_63 n v5 v7 v9 v11 v12 h = some (r, h0) → Jx skC RX11 cX11_liar 16 (some .int) 3 (some (.int r)) h0 63 [some (.ref 0), none, none, none, none, some (.long v5), none, some (.long v7), none, some (.long v9), none, some (.int v11), some (.int v12), none, none, none] [] h := by
  intro n
  induction n with
  | zero => intro v5 v7 v9 v11 v12  h H; cases H
  | succ n ih =>
    intro v5 v7 v9 v11 v12  h H
    rw [fX11_liar_63] at H
    refine j_iload (pc := 63) dX11_liar_63 rfl ?_
    refine j_aload_n (pc := 65) dX11_liar_65 rfl ?_
    refine j_getR (pc := 66) (b := 2) dX11_liar_66 flX11_20 rfl ?_
    refine j_getI (pc := 69) dX11_liar_69 flX11_104 rfl ?_
    refine j_icmp_ge (pc := 72) (tgt := 205) dX11_liar_72 (by decide) (fun c14 => ?_) (fun c14 => ?_)
    · rw [if_pos c14] at H
      refine j_iload (pc := 205) dX11_liar_205 rfl ?_
      exact j_ireturn (pc := 207) dX11_liar_207 rfl (ri_1 H) (ri_2 H)
    · rw [if_neg c14] at H
      refine j_aload_n (pc := 75) dX11_liar_75 rfl ?_
      refine j_getR (pc := 76) (b := 2) dX11_liar_76 flX11_20 rfl ?_
      refine j_getR (pc := 79) (b := 30) dX11_liar_79 flX11_98 rfl ?_
      refine j_iload (pc := 82) dX11_liar_82 rfl ?_
      obtain ⟨b15, H⟩ := ck_x H
      refine j_iaload (pc := 84) dX11_liar_84 rfl b15 rfl ?_
      refine j_i2l (pc := 85) dX11_liar_85 ?_
      refine j_lload (pc := 86) dX11_liar_86 rfl ?_
      refine j_ladd (pc := 88) dX11_liar_88 ?_
      obtain ⟨v13_16, ev13_16, H⟩ := nm_x H
      refine j_topl ev13_16 ?_
      refine j_lstore (pc := 89) (L' := [some (.ref 0), none, none, none, none, some (.long v5), none, some (.long v7), none, some (.long v9), none, some (.int v11), some (.int v12), some (.long v13_16), none, none]) dX11_liar_89 (by decide) rfl ?_
      refine j_lload (pc := 91) dX11_liar_91 rfl ?_
      refine j_lconst (pc := 93) (v := 0) dX11_liar_93 (by decide) ?_
      refine j_lcmp (pc := 94) dX11_liar_94 ?_
      refine j_if_lt (pc := 95) (tgt := 159) dX11_liar_95 (by decide) (fun c17 => ?_) (fun c17 => ?_)
      · rw [if_pos c17] at H
        refine Jx.sub (L' := [some (.ref 0), none, none, none, none, some (.long v5), none, some (.long v7), none, some (.long v9), none, some (.int v11), some (.int v12), some (.long v13_16), none, none]) (⟨rfl, ⟨rfl, ⟨rfl, ⟨rfl, ⟨rfl, ⟨rfl, ⟨rfl, trivial⟩⟩⟩⟩⟩⟩⟩) ?_
        exact jX11_liar_159 _ ih v5 v7 v9 v11 v12 v13_16 h H
      · rw [if_neg c17] at H
        refine j_lload (pc := 98) dX11_liar_98 rfl ?_
        refine j_aload_n (pc := 100) dX11_liar_100 rfl ?_
        refine j_getR (pc := 101) (b := 2) dX11_liar_101 flX11_20 rfl ?_
        refine j_getR (pc := 104) (b := 29) dX11_liar_104 flX11_95 rfl ?_
        refine j_iload (pc := 107) dX11_liar_107 rfl ?_
        obtain ⟨b18, H⟩ := ck_x H
        refine j_iaload (pc := 109) dX11_liar_109 rfl b18 rfl ?_
        refine j_i2l (pc := 110) dX11_liar_110 ?_
        refine j_lcmp (pc := 111) dX11_liar_111 ?_
        refine j_if_gt (pc := 112) (tgt := 159) dX11_liar_112 (by decide) (fun c19 => ?_) (fun c19 => ?_)
        · rw [if_pos c19] at H
          refine Jx.sub (L' := [some (.ref 0), none, none, none, none, some (.long v5), none, some (.long v7), none, some (.long v9), none, some (.int v11), some (.int v12), some (.long v13_16), none, none]) (⟨rfl, ⟨rfl, ⟨rfl, ⟨rfl, ⟨rfl, ⟨rfl, ⟨rfl, trivial⟩⟩⟩⟩⟩⟩⟩) ?_
          exact jX11_liar_159 _ ih v5 v7 v9 v11 v12 v13_16 h H
        · rw [if_neg c19] at H
          refine j_aload_n (pc := 115) dX11_liar_115 rfl ?_
          refine j_getR (pc := 116) (b := 2) dX11_liar_116 flX11_20 rfl ?_
          refine j_getR (pc := 119) (b := 27) dX11_liar_119 flX11_164 rfl ?_
          refine j_iload (pc := 122) dX11_liar_122 rfl ?_
          obtain ⟨b20, H⟩ := ck_x H
          refine j_iaload (pc := 124) dX11_liar_124 rfl b20 rfl ?_
          refine j_i2l (pc := 125) dX11_liar_125 ?_
          refine j_lload (pc := 126) dX11_liar_126 rfl ?_
          refine j_lmul (pc := 128) dX11_liar_128 ?_
          refine j_lload (pc := 129) dX11_liar_129 rfl ?_
          refine j_lcmp (pc := 131) dX11_liar_131 ?_
          refine j_if_ne (pc := 132) (tgt := 159) dX11_liar_132 (by decide) (fun c21 => ?_) (fun c21 => ?_)
          · rw [if_neg c21] at H
            refine Jx.sub (L' := [some (.ref 0), none, none, none, none, some (.long v5), none, some (.long v7), none, some (.long v9), none, some (.int v11), some (.int v12), some (.long v13_16), none, none]) (⟨rfl, ⟨rfl, ⟨rfl, ⟨rfl, ⟨rfl, ⟨rfl, ⟨rfl, trivial⟩⟩⟩⟩⟩⟩⟩) ?_
            exact jX11_liar_159 _ ih v5 v7 v9 v11 v12 v13_16 h H
          · rw [if_pos c21] at H
            refine j_aload_n (pc := 135) dX11_liar_135 rfl ?_
            refine j_getR (pc := 136) (b := 2) dX11_liar_136 flX11_20 rfl ?_
            refine j_getR (pc := 139) (b := 28) dX11_liar_139 flX11_167 rfl ?_
            refine j_iload (pc := 142) dX11_liar_142 rfl ?_
            obtain ⟨b22, H⟩ := ck_x H
            refine j_iaload (pc := 144) dX11_liar_144 rfl b22 rfl ?_
            refine j_i2l (pc := 145) dX11_liar_145 ?_
            refine j_lload (pc := 146) dX11_liar_146 rfl ?_
            refine j_lmul (pc := 148) dX11_liar_148 ?_
            refine j_lload (pc := 149) dX11_liar_149 rfl ?_
            refine j_lcmp (pc := 151) dX11_liar_151 ?_
            refine j_if_ne (pc := 152) (tgt := 159) dX11_liar_152 (by decide) (fun c23 => ?_) (fun c23 => ?_)
            · rw [if_neg c23] at H
              refine Jx.sub (L' := [some (.ref 0), none, none, none, none, some (.long v5), none, some (.long v7), none, some (.long v9), none, some (.int v11), some (.int v12), some (.long v13_16), none, none]) (⟨rfl, ⟨rfl, ⟨rfl, ⟨rfl, ⟨rfl, ⟨rfl, ⟨rfl, trivial⟩⟩⟩⟩⟩⟩⟩) ?_
              exact jX11_liar_159 _ ih v5 v7 v9 v11 v12 v13_16 h H
            · rw [if_pos c23] at H
              refine j_iconst (pc := 155) (v := 1) dX11_liar_155 (by decide) ?_
              refine j_goto (pc := 156) (tgt := 160) dX11_liar_156 (by decide) ?_
              refine Jx.sub (L' := [some (.ref 0), none, none, none, none, some (.long v5), none, some (.long v7), none, some (.long v9), none, some (.int v11), some (.int v12), some (.long v13_16), none, none]) (⟨rfl, ⟨rfl, ⟨rfl, ⟨rfl, ⟨rfl, ⟨rfl, ⟨rfl, trivial⟩⟩⟩⟩⟩⟩⟩) ?_
              exact jX11_liar_160 _ ih v5 v7 v9 v11 v12 v13_16 (1 : Int32) h H
noncomputable def fX11_liar (p1 : Int32) (p2 : Int32) (p3 : Int32) (p4 : Int32) (h : HS) : Option (Int32 × HS) := bd (fX11_isDepth p1 h) (fun r2 h1 => if r2 = 0 then (some ((-1 : Int32), h1)) else (bd (fX0_heavyAt p1 h1) (fun r5 h4 => nm (((p2.toInt64) - (r5.toInt64))) (fun v5_6 => bd (fX0_momentNow h4) (fun r8 h7 => nm (((p3.toInt64) - (r8.toInt64))) (fun v7_9 => bd (fX0_listNow h7) (fun r11 h10 => nm (((p4.toInt64) - (r11.toInt64))) (fun v9_12 => bv (fX6_empty h10) (fun h13 => fX11_liar_63 FU v5_6 v7_9 v9_12 (0 : Int32) (0 : Int32) h13)))))))))
set_option maxRecDepth 100000 in
theorem tX11_liar {p1 : Int32} {p2 : Int32} {p3 : Int32} {p4 : Int32} {r : Int32} {h h0 : HS} (H : fX11_liar p1 p2 p3 p4 h = some (r, h0)) : Cn skC yX11_liar cX11_liar 16 (some .int) 3 [.ref 0, .int p1, .int p2, .int p3, .int p4] h (some (.int r)) h0 := by
  refine Cn_of (L := [some (.ref 0), some (.int p1), some (.int p2), some (.int p3), some (.int p4), none, none, none, none, none, none, none, none, none, none, none]) (by decide +kernel) (by simp [lg_sl, Value.category]) (fun ad => by simp [lg_sl, tv, Value.category]) (⟨rfl, ⟨rfl, ⟨rfl, ⟨rfl, ⟨rfl, trivial⟩⟩⟩⟩⟩) ?_
  unfold fX11_liar at H
  refine j_iload_n (pc := 0) dX11_liar_0 rfl ?_
  obtain ⟨r2, h1, eh1, H⟩ := bd_x H
  refine j_callS (pc := 1) dX11_liar_1 mlX11_142 wyX11_isDepth (tX11_isDepth eh1) (by decide) rfl (by simp [Value.category]) rfl ?_
  refine j_if_ne (pc := 4) (tgt := 9) dX11_liar_4 (by decide) (fun c3 => ?_) (fun c3 => ?_)
  · rw [if_neg c3] at H
    refine j_iload_n (pc := 9) dX11_liar_9 rfl ?_
    refine j_i2l (pc := 10) dX11_liar_10 ?_
    refine j_aload_n (pc := 11) dX11_liar_11 rfl ?_
    refine j_getR (pc := 12) (b := 1) dX11_liar_12 flX11_10 rfl ?_
    refine j_iload_n (pc := 15) dX11_liar_15 rfl ?_
    obtain ⟨r5, h4, eh4, H⟩ := bd_x H
    refine j_callV (pc := 16) dX11_liar_16 mlX11_174 wyX0_heavyAt (tX0_heavyAt eh4) (by decide) rfl rfl rfl rfl (by simp [Value.category]) rfl ?_
    refine j_i2l (pc := 19) dX11_liar_19 ?_
    refine j_lsub (pc := 20) dX11_liar_20 ?_
    obtain ⟨v5_6, ev5_6, H⟩ := nm_x H
    refine j_topl ev5_6 ?_
    refine j_lstore (pc := 21) (L' := [some (.ref 0), some (.int p1), some (.int p2), some (.int p3), some (.int p4), some (.long v5_6), none, none, none, none, none, none, none, none, none, none]) dX11_liar_21 (by decide) rfl ?_
    refine j_iload_n (pc := 23) dX11_liar_23 rfl ?_
    refine j_i2l (pc := 24) dX11_liar_24 ?_
    refine j_aload_n (pc := 25) dX11_liar_25 rfl ?_
    refine j_getR (pc := 26) (b := 1) dX11_liar_26 flX11_10 rfl ?_
    obtain ⟨r8, h7, eh7, H⟩ := bd_x H
    refine j_callV (pc := 29) dX11_liar_29 mlX11_180 wyX0_momentNow (tX0_momentNow eh7) (by decide) rfl rfl rfl rfl (by simp [Value.category]) rfl ?_
    refine j_i2l (pc := 32) dX11_liar_32 ?_
    refine j_lsub (pc := 33) dX11_liar_33 ?_
    obtain ⟨v7_9, ev7_9, H⟩ := nm_x H
    refine j_topl ev7_9 ?_
    refine j_lstore (pc := 34) (L' := [some (.ref 0), some (.int p1), some (.int p2), some (.int p3), some (.int p4), some (.long v5_6), none, some (.long v7_9), none, none, none, none, none, none, none, none]) dX11_liar_34 (by decide) rfl ?_
    refine j_iload (pc := 36) dX11_liar_36 rfl ?_
    refine j_i2l (pc := 38) dX11_liar_38 ?_
    refine j_aload_n (pc := 39) dX11_liar_39 rfl ?_
    refine j_getR (pc := 40) (b := 1) dX11_liar_40 flX11_10 rfl ?_
    obtain ⟨r11, h10, eh10, H⟩ := bd_x H
    refine j_callV (pc := 43) dX11_liar_43 mlX11_184 wyX0_listNow (tX0_listNow eh10) (by decide) rfl rfl rfl rfl (by simp [Value.category]) rfl ?_
    refine j_i2l (pc := 46) dX11_liar_46 ?_
    refine j_lsub (pc := 47) dX11_liar_47 ?_
    obtain ⟨v9_12, ev9_12, H⟩ := nm_x H
    refine j_topl ev9_12 ?_
    refine j_lstore (pc := 48) (L' := [some (.ref 0), some (.int p1), some (.int p2), some (.int p3), some (.int p4), some (.long v5_6), none, some (.long v7_9), none, some (.long v9_12), none, none, none, none, none, none]) dX11_liar_48 (by decide) rfl ?_
    refine j_iconst (pc := 50) (v := 0) dX11_liar_50 (by decide) ?_
    refine j_istore (pc := 51) (L' := [some (.ref 0), some (.int p1), some (.int p2), some (.int p3), some (.int p4), some (.long v5_6), none, some (.long v7_9), none, some (.long v9_12), none, some (.int (0 : Int32)), none, none, none, none]) dX11_liar_51 (by decide) rfl ?_
    refine j_aload_n (pc := 53) dX11_liar_53 rfl ?_
    refine j_getR (pc := 54) (b := 4) dX11_liar_54 flX11_29 rfl ?_
    obtain ⟨h13, eh13, H⟩ := bv_x H
    refine j_callV (pc := 57) dX11_liar_57 mlX11_207 wyX6_empty (tX6_empty eh13) (by decide) rfl rfl rfl rfl (by simp [Value.category]) rfl ?_
    refine j_iconst (pc := 60) (v := 0) dX11_liar_60 (by decide) ?_
    refine j_istore (pc := 61) (L' := [some (.ref 0), some (.int p1), some (.int p2), some (.int p3), some (.int p4), some (.long v5_6), none, some (.long v7_9), none, some (.long v9_12), none, some (.int (0 : Int32)), some (.int (0 : Int32)), none, none, none]) dX11_liar_61 (by decide) rfl ?_
    refine Jx.sub (L' := [some (.ref 0), none, none, none, none, some (.long v5_6), none, some (.long v7_9), none, some (.long v9_12), none, some (.int (0 : Int32)), some (.int (0 : Int32)), none, none, none]) (⟨rfl, ⟨rfl, ⟨rfl, ⟨rfl, ⟨rfl, ⟨rfl, trivial⟩⟩⟩⟩⟩⟩) ?_
    exact jX11_liar_63 FU v5_6 v7_9 v9_12 (0 : Int32) (0 : Int32) h13 H
  · rw [if_pos c3] at H
    refine j_iconst (pc := 7) (v := -1) dX11_liar_7 (by decide) ?_
    exact j_ireturn (pc := 8) dX11_liar_8 rfl (ri_1 H) (ri_2 H)

noncomputable def fX11_boundFirst (p1 : Int32) (p2 : Int32) (p3 : Int64) (h : HS) : Option HS := ck (inb p1 15) (bd (fX4_room p2 h) (fun r3 h2 => nm ((lmax ((-(gI h 30 p1.toNatClampNeg)).toInt64) (p3 - (r3.toInt64)))) (fun v5_4 => bd (fX4_room p1 h2) (fun r6 h5 => ck (inb p2 15) (nm ((lmin (r6.toInt64) (p3 + ((gI h5 30 p2.toNatClampNeg).toInt64)))) (fun v7_8 => bv (fX7_reset 10 v5_4 v7_8 h5) (fun h9 => some h9)))))))
set_option maxRecDepth 100000 in
theorem tX11_boundFirst {p1 : Int32} {p2 : Int32} {p3 : Int64} {h h0 : HS} (H : fX11_boundFirst p1 p2 p3 h = some h0) : Cn skC yX11_boundFirst cX11_boundFirst 9 none 2 [.ref 0, .int p1, .int p2, .long p3] h none h0 := by
  refine Cn_of (L := [some (.ref 0), some (.int p1), some (.int p2), some (.long p3), none, none, none, none, none]) (by decide +kernel) (by simp [lg_sl, Value.category]) (fun ad => by simp [lg_sl, tv, Value.category]) (⟨rfl, ⟨rfl, ⟨rfl, ⟨rfl, trivial⟩⟩⟩⟩) ?_
  unfold fX11_boundFirst at H
  refine j_aload_n (pc := 0) dX11_boundFirst_0 rfl ?_
  refine j_getR (pc := 1) (b := 2) dX11_boundFirst_1 flX11_20 rfl ?_
  refine j_getR (pc := 4) (b := 30) dX11_boundFirst_4 flX11_98 rfl ?_
  refine j_iload_n (pc := 7) dX11_boundFirst_7 rfl ?_
  obtain ⟨b1, H⟩ := ck_x H
  refine j_iaload (pc := 8) dX11_boundFirst_8 rfl b1 rfl ?_
  refine j_ineg (pc := 9) dX11_boundFirst_9 ?_
  refine j_i2l (pc := 10) dX11_boundFirst_10 ?_
  refine j_lload_n (pc := 11) dX11_boundFirst_11 rfl ?_
  refine j_aload_n (pc := 12) dX11_boundFirst_12 rfl ?_
  refine j_getR (pc := 13) (b := 2) dX11_boundFirst_13 flX11_20 rfl ?_
  refine j_iload_n (pc := 16) dX11_boundFirst_16 rfl ?_
  obtain ⟨r3, h2, eh2, H⟩ := bd_x H
  refine j_callV (pc := 17) dX11_boundFirst_17 mlX11_268 wyX4_room (tX4_room eh2) (by decide) rfl rfl rfl rfl (by simp [Value.category]) rfl ?_
  refine j_i2l (pc := 20) dX11_boundFirst_20 ?_
  refine j_lsub (pc := 21) dX11_boundFirst_21 ?_
  refine j_mmaxL (pc := 22) dX11_boundFirst_22 wmX11_271 (by simp [Value.category]) ?_
  obtain ⟨v5_4, ev5_4, H⟩ := nm_x H
  refine j_topl ev5_4 ?_
  refine j_lstore (pc := 25) (L' := [some (.ref 0), some (.int p1), some (.int p2), some (.long p3), none, some (.long v5_4), none, none, none]) dX11_boundFirst_25 (by decide) rfl ?_
  refine j_aload_n (pc := 27) dX11_boundFirst_27 rfl ?_
  refine j_getR (pc := 28) (b := 2) dX11_boundFirst_28 flX11_20 rfl ?_
  refine j_iload_n (pc := 31) dX11_boundFirst_31 rfl ?_
  obtain ⟨r6, h5, eh5, H⟩ := bd_x H
  refine j_callV (pc := 32) dX11_boundFirst_32 mlX11_268 wyX4_room (tX4_room eh5) (by decide) rfl rfl rfl rfl (by simp [Value.category]) rfl ?_
  refine j_i2l (pc := 35) dX11_boundFirst_35 ?_
  refine j_lload_n (pc := 36) dX11_boundFirst_36 rfl ?_
  refine j_aload_n (pc := 37) dX11_boundFirst_37 rfl ?_
  refine j_getR (pc := 38) (b := 2) dX11_boundFirst_38 flX11_20 rfl ?_
  refine j_getR (pc := 41) (b := 30) dX11_boundFirst_41 flX11_98 rfl ?_
  refine j_iload_n (pc := 44) dX11_boundFirst_44 rfl ?_
  obtain ⟨b7, H⟩ := ck_x H
  refine j_iaload (pc := 45) dX11_boundFirst_45 rfl b7 rfl ?_
  refine j_i2l (pc := 46) dX11_boundFirst_46 ?_
  refine j_ladd (pc := 47) dX11_boundFirst_47 ?_
  refine j_mminL (pc := 48) dX11_boundFirst_48 wmX11_275 (by simp [Value.category]) ?_
  obtain ⟨v7_8, ev7_8, H⟩ := nm_x H
  refine j_topl ev7_8 ?_
  refine j_lstore (pc := 51) (L' := [some (.ref 0), some (.int p1), some (.int p2), some (.long p3), none, some (.long v5_4), none, some (.long v7_8), none]) dX11_boundFirst_51 (by decide) rfl ?_
  refine j_aload_n (pc := 53) dX11_boundFirst_53 rfl ?_
  refine j_getR (pc := 54) (b := 10) dX11_boundFirst_54 flX11_77 rfl ?_
  refine j_lload (pc := 57) dX11_boundFirst_57 rfl ?_
  refine j_lload (pc := 59) dX11_boundFirst_59 rfl ?_
  obtain ⟨h9, eh9, H⟩ := bv_x H
  refine j_callV (pc := 61) dX11_boundFirst_61 mlX11_277 wyX7_reset (tX7_reset rfl eh9) (by decide) rfl rfl rfl rfl (by simp [Value.category]) rfl ?_
  exact j_return (pc := 64) dX11_boundFirst_64 rfl rfl (rv_2 H)

noncomputable def fX11_firstChange_43 (k11 : Int64 → Int64 → Int32 → HS → Option (Int64 × HS)) (v1 : Int64) (v3 : Int64) (v5 : Int32) (h : HS) : Option (Int64 × HS) := nm ((v3 + (1 : Int64))) (fun v3_6 => nm (v5 + (1 : Int32)) (fun v5_7 => k11 v1 v3_6 v5_7 h))
set_option maxRecDepth 100000 in
theorem jX11_firstChange_43 {r : Int64} {h0 : HS} (k11 : Int64 → Int64 → Int32 → HS → Option (Int64 × HS)) (hk11 : ∀ (v1 : Int64) (v3 : Int64) (v5 : Int32) (h : HS), k11 v1 v3 v5 h = some (r, h0) → Jx skC RX11 cX11_firstChange 6 (some .long) 0 (some (.long r)) h0 11 [some (.ref 0), some (.long v1), none, some (.long v3), none, some (.int v5)] [] h) (v1 : Int64) (v3 : Int64) (v5 : Int32) (h : HS) (H : fX11_firstChange_43 k11 v1 v3 v5 h = some (r, h0)) : Jx skC RX11 cX11_firstChange 6 (some .long) 0 (some (.long r)) h0 43 [some (.ref 0), some (.long v1), none, some (.long v3), none, some (.int v5)] [] h := by
  unfold fX11_firstChange_43 at H
  refine j_lload_n (pc := 43) dX11_firstChange_43 rfl ?_
  refine j_lconst (pc := 44) (v := 1) dX11_firstChange_44 (by decide) ?_
  refine j_ladd (pc := 45) dX11_firstChange_45 ?_
  obtain ⟨v3_6, ev3_6, H⟩ := nm_x H
  refine j_topl ev3_6 ?_
  refine j_lstore_n (pc := 46) (L' := [some (.ref 0), some (.long v1), none, some (.long v3_6), none, some (.int v5)]) dX11_firstChange_46 (by decide) rfl ?_
  obtain ⟨v5_7, ev5_7, H⟩ := nm_x H
  refine j_iinc (pc := 47) (L' := [some (.ref 0), some (.long v1), none, some (.long v3_6), none, some (.int v5_7)]) (w := 1) dX11_firstChange_47 rfl (by decide) (by decide) v5_7 ev5_7 rfl ?_
  refine j_goto (pc := 50) (tgt := 11) dX11_firstChange_50 (by decide) ?_
  refine Jx.sub (L' := [some (.ref 0), some (.long v1), none, some (.long v3_6), none, some (.int v5_7)]) (⟨rfl, ⟨rfl, ⟨rfl, ⟨rfl, trivial⟩⟩⟩⟩) ?_
  exact hk11 v1 v3_6 v5_7 h H
noncomputable def fX11_firstChange_11 : Nat → Int64 → Int64 → Int32 → HS → Option (Int64 × HS)
  | 0, _, _, _, _ => none
  | n + 1, v1, v3, v5, h => if (3 : Int32) ≤ v5 then (some ((0 : Int64), h)) else (if 0 < (lg_cmp v3 (gL h 10 1)) then (some ((0 : Int64), h)) else (if (lg_cmp v3 (0 : Int64)) = 0 then (fX11_firstChange_43 (fX11_firstChange_11 n) v1 v3 v5 h) else (if (lg_cmp v3 v1) = 0 then (fX11_firstChange_43 (fX11_firstChange_11 n) v1 v3 v5 h) else (some (v3, h)))))
set_option maxRecDepth 100000 in
theorem jX11_firstChange_11 {r : Int64} {h0 : HS} : ∀ (n : Nat) (v1 : Int64) (v3 : Int64) (v5 : Int32) (h : HS), fX11_firstChange_11 n v1 v3 v5 h = some (r, h0) → Jx skC RX11 cX11_firstChange 6 (some .long) 0 (some (.long r)) h0 11 [some (.ref 0), some (.long v1), none, some (.long v3), none, some (.int v5)] [] h := by
  intro n
  induction n with
  | zero => intro v1 v3 v5  h H; cases H
  | succ n ih =>
    intro v1 v3 v5  h H
    rw [fX11_firstChange_11] at H
    refine j_iload (pc := 11) dX11_firstChange_11 rfl ?_
    refine j_iconst (pc := 13) (v := 3) dX11_firstChange_13 (by decide) ?_
    refine j_icmp_ge (pc := 14) (tgt := 53) dX11_firstChange_14 (by decide) (fun c2 => ?_) (fun c2 => ?_)
    · rw [if_pos c2] at H
      refine j_lconst (pc := 53) (v := 0) dX11_firstChange_53 (by decide) ?_
      exact j_lreturn (pc := 54) dX11_firstChange_54 rfl (rl_1 H) (ri_2 H)
    · rw [if_neg c2] at H
      refine j_lload_n (pc := 17) dX11_firstChange_17 rfl ?_
      refine j_aload_n (pc := 18) dX11_firstChange_18 rfl ?_
      refine j_getR (pc := 19) (b := 10) dX11_firstChange_19 flX11_77 rfl ?_
      refine j_getL (pc := 22) dX11_firstChange_22 flX11_285 rfl ?_
      refine j_lcmp (pc := 25) dX11_firstChange_25 ?_
      refine j_if_gt (pc := 26) (tgt := 53) dX11_firstChange_26 (by decide) (fun c3 => ?_) (fun c3 => ?_)
      · rw [if_pos c3] at H
        refine j_lconst (pc := 53) (v := 0) dX11_firstChange_53 (by decide) ?_
        exact j_lreturn (pc := 54) dX11_firstChange_54 rfl (rl_1 H) (ri_2 H)
      · rw [if_neg c3] at H
        refine j_lload_n (pc := 29) dX11_firstChange_29 rfl ?_
        refine j_lconst (pc := 30) (v := 0) dX11_firstChange_30 (by decide) ?_
        refine j_lcmp (pc := 31) dX11_firstChange_31 ?_
        refine j_if_eq (pc := 32) (tgt := 43) dX11_firstChange_32 (by decide) (fun c4 => ?_) (fun c4 => ?_)
        · rw [if_pos c4] at H
          refine Jx.sub (L' := [some (.ref 0), some (.long v1), none, some (.long v3), none, some (.int v5)]) (⟨rfl, ⟨rfl, ⟨rfl, ⟨rfl, trivial⟩⟩⟩⟩) ?_
          exact jX11_firstChange_43 _ ih v1 v3 v5 h H
        · rw [if_neg c4] at H
          refine j_lload_n (pc := 35) dX11_firstChange_35 rfl ?_
          refine j_lload_n (pc := 36) dX11_firstChange_36 rfl ?_
          refine j_lcmp (pc := 37) dX11_firstChange_37 ?_
          refine j_if_eq (pc := 38) (tgt := 43) dX11_firstChange_38 (by decide) (fun c5 => ?_) (fun c5 => ?_)
          · rw [if_pos c5] at H
            refine Jx.sub (L' := [some (.ref 0), some (.long v1), none, some (.long v3), none, some (.int v5)]) (⟨rfl, ⟨rfl, ⟨rfl, ⟨rfl, trivial⟩⟩⟩⟩) ?_
            exact jX11_firstChange_43 _ ih v1 v3 v5 h H
          · rw [if_neg c5] at H
            refine j_lload_n (pc := 41) dX11_firstChange_41 rfl ?_
            exact j_lreturn (pc := 42) dX11_firstChange_42 rfl (rl_1 H) (ri_2 H)
noncomputable def fX11_firstChange (p1 : Int64) (h : HS) : Option (Int64 × HS) := nm ((gL h 10 0)) (fun v3_1 => fX11_firstChange_11 FU p1 v3_1 (0 : Int32) h)
set_option maxRecDepth 100000 in
theorem tX11_firstChange {p1 : Int64} {r : Int64} {h h0 : HS} (H : fX11_firstChange p1 h = some (r, h0)) : Cn skC yX11_firstChange cX11_firstChange 6 (some .long) 0 [.ref 0, .long p1] h (some (.long r)) h0 := by
  refine Cn_of (L := [some (.ref 0), some (.long p1), none, none, none, none]) (by decide +kernel) (by simp [lg_sl, Value.category]) (fun ad => by simp [lg_sl, tv, Value.category]) (⟨rfl, ⟨rfl, trivial⟩⟩) ?_
  unfold fX11_firstChange at H
  refine j_aload_n (pc := 0) dX11_firstChange_0 rfl ?_
  refine j_getR (pc := 1) (b := 10) dX11_firstChange_1 flX11_77 rfl ?_
  refine j_getL (pc := 4) dX11_firstChange_4 flX11_281 rfl ?_
  obtain ⟨v3_1, ev3_1, H⟩ := nm_x H
  refine j_topl ev3_1 ?_
  refine j_lstore_n (pc := 7) (L' := [some (.ref 0), some (.long p1), none, some (.long v3_1), none, none]) dX11_firstChange_7 (by decide) rfl ?_
  refine j_iconst (pc := 8) (v := 0) dX11_firstChange_8 (by decide) ?_
  refine j_istore (pc := 9) (L' := [some (.ref 0), some (.long p1), none, some (.long v3_1), none, some (.int (0 : Int32))]) dX11_firstChange_9 (by decide) rfl ?_
  refine Jx.sub (L' := [some (.ref 0), some (.long p1), none, some (.long v3_1), none, some (.int (0 : Int32))]) (⟨rfl, ⟨rfl, ⟨rfl, ⟨rfl, trivial⟩⟩⟩⟩) ?_
  exact jX11_firstChange_11 FU p1 v3_1 (0 : Int32) h H

noncomputable def fX11_tellFirstPair (p1 : Int32) (p2 : Int32) (p3 : Int32) (p4 : Int32) (h : HS) : Option HS := if (gI h 4 1) ≤ 0 then (bv (fX6_add p1 h) (fun h2 => bv (fX6_add p2 h2) (fun h3 => ck (inb p1 15) (bv (fX6_add (((gI h3 30 p1.toNatClampNeg) + p3)) h3) (fun h5 => ck (inb p2 15) (bv (fX6_add (((gI h5 30 p2.toNatClampNeg) + p4)) h5) (fun h7 => some h7))))))) else (some h)
set_option maxRecDepth 100000 in
theorem tX11_tellFirstPair {p1 : Int32} {p2 : Int32} {p3 : Int32} {p4 : Int32} {h h0 : HS} (H : fX11_tellFirstPair p1 p2 p3 p4 h = some h0) : Cn skC yX11_tellFirstPair cX11_tellFirstPair 5 none 1 [.ref 0, .int p1, .int p2, .int p3, .int p4] h none h0 := by
  refine Cn_of (L := [some (.ref 0), some (.int p1), some (.int p2), some (.int p3), some (.int p4)]) (by decide +kernel) (by simp [lg_sl, Value.category]) (fun ad => by simp [lg_sl, tv, Value.category]) (⟨rfl, ⟨rfl, ⟨rfl, ⟨rfl, ⟨rfl, trivial⟩⟩⟩⟩⟩) ?_
  unfold fX11_tellFirstPair at H
  refine j_aload_n (pc := 0) dX11_tellFirstPair_0 rfl ?_
  refine j_getR (pc := 1) (b := 4) dX11_tellFirstPair_1 flX11_29 rfl ?_
  refine j_getI (pc := 4) dX11_tellFirstPair_4 flX11_288 rfl ?_
  refine j_if_le (pc := 7) (tgt := 11) dX11_tellFirstPair_7 (by decide) (fun c1 => ?_) (fun c1 => ?_)
  · rw [if_pos c1] at H
    refine j_aload_n (pc := 11) dX11_tellFirstPair_11 rfl ?_
    refine j_getR (pc := 12) (b := 4) dX11_tellFirstPair_12 flX11_29 rfl ?_
    refine j_iload_n (pc := 15) dX11_tellFirstPair_15 rfl ?_
    obtain ⟨h2, eh2, H⟩ := bv_x H
    refine j_callV (pc := 16) dX11_tellFirstPair_16 mlX11_210 wyX6_add (tX6_add eh2) (by decide) rfl rfl rfl rfl (by simp [Value.category]) rfl ?_
    refine j_aload_n (pc := 19) dX11_tellFirstPair_19 rfl ?_
    refine j_getR (pc := 20) (b := 4) dX11_tellFirstPair_20 flX11_29 rfl ?_
    refine j_iload_n (pc := 23) dX11_tellFirstPair_23 rfl ?_
    obtain ⟨h3, eh3, H⟩ := bv_x H
    refine j_callV (pc := 24) dX11_tellFirstPair_24 mlX11_210 wyX6_add (tX6_add eh3) (by decide) rfl rfl rfl rfl (by simp [Value.category]) rfl ?_
    refine j_aload_n (pc := 27) dX11_tellFirstPair_27 rfl ?_
    refine j_getR (pc := 28) (b := 4) dX11_tellFirstPair_28 flX11_29 rfl ?_
    refine j_aload_n (pc := 31) dX11_tellFirstPair_31 rfl ?_
    refine j_getR (pc := 32) (b := 2) dX11_tellFirstPair_32 flX11_20 rfl ?_
    refine j_getR (pc := 35) (b := 30) dX11_tellFirstPair_35 flX11_98 rfl ?_
    refine j_iload_n (pc := 38) dX11_tellFirstPair_38 rfl ?_
    obtain ⟨b4, H⟩ := ck_x H
    refine j_iaload (pc := 39) dX11_tellFirstPair_39 rfl b4 rfl ?_
    refine j_iload_n (pc := 40) dX11_tellFirstPair_40 rfl ?_
    refine j_iadd (pc := 41) dX11_tellFirstPair_41 ?_
    obtain ⟨h5, eh5, H⟩ := bv_x H
    refine j_callV (pc := 42) dX11_tellFirstPair_42 mlX11_210 wyX6_add (tX6_add eh5) (by decide) rfl rfl rfl rfl (by simp [Value.category]) rfl ?_
    refine j_aload_n (pc := 45) dX11_tellFirstPair_45 rfl ?_
    refine j_getR (pc := 46) (b := 4) dX11_tellFirstPair_46 flX11_29 rfl ?_
    refine j_aload_n (pc := 49) dX11_tellFirstPair_49 rfl ?_
    refine j_getR (pc := 50) (b := 2) dX11_tellFirstPair_50 flX11_20 rfl ?_
    refine j_getR (pc := 53) (b := 30) dX11_tellFirstPair_53 flX11_98 rfl ?_
    refine j_iload_n (pc := 56) dX11_tellFirstPair_56 rfl ?_
    obtain ⟨b6, H⟩ := ck_x H
    refine j_iaload (pc := 57) dX11_tellFirstPair_57 rfl b6 rfl ?_
    refine j_iload (pc := 58) dX11_tellFirstPair_58 rfl ?_
    refine j_iadd (pc := 60) dX11_tellFirstPair_60 ?_
    obtain ⟨h7, eh7, H⟩ := bv_x H
    refine j_callV (pc := 61) dX11_tellFirstPair_61 mlX11_210 wyX6_add (tX6_add eh7) (by decide) rfl rfl rfl rfl (by simp [Value.category]) rfl ?_
    exact j_return (pc := 64) dX11_tellFirstPair_64 rfl rfl (rv_2 H)
  · rw [if_neg c1] at H
    exact j_return (pc := 10) dX11_tellFirstPair_10 rfl rfl (rv_2 H)

noncomputable def fX11_two_81 (k63 : Int64 → Int64 → Int64 → Int32 → Int32 → HS → Option (Int32 × HS)) : Nat → Int64 → Int64 → Int64 → Int32 → Int32 → Int32 → HS → Option (Int32 × HS)
  | 0, _, _, _, _, _, _, _ => none
  | n + 1, v5, v7, v9, v11, v12, v13, h => if (gI h 2 8) ≤ v13 then (nm (v12 + (1 : Int32)) (fun v12_17 => k63 v5 v7 v9 v11 v12_17 h)) else (bv (fX11_boundFirst v12 v13 v5 h) (fun h18 => ck (inb v12 15) (ck (inb v13 15) (ck (inb v13 15) (bv (fX7_fix 10 (0 : Int64) ((((gI h18 27 v12.toNatClampNeg) - (gI h18 27 v13.toNatClampNeg)).toInt64)) ((v7 - (((gI h18 27 v13.toNatClampNeg).toInt64) * v5))) h18) (fun h22 => ck (inb v12 15) (ck (inb v13 15) (ck (inb v13 15) (bv (fX7_fix 10 (0 : Int64) ((((gI h22 28 v12.toNatClampNeg) - (gI h22 28 v13.toNatClampNeg)).toInt64)) ((v9 - (((gI h22 28 v13.toNatClampNeg).toInt64) * v5))) h22) (fun h26 => bd (fX11_firstChange v5 h26) (fun r28 h27 => if (lg_cmp r28 (0 : Int64)) = 0 then (nm (v13 + (1 : Int32)) (fun v13_30 => fX11_two_81 k63 n v5 v7 v9 v11 v12 v13_30 h27)) else (bv (fX11_tellFirstPair v12 v13 ((r28.toInt32)) (((v5 - r28).toInt32)) h27) (fun h31 => nm (v11 + (1 : Int32)) (fun v11_32 => nm (v13 + (1 : Int32)) (fun v13_33 => fX11_two_81 k63 n v5 v7 v9 v11_32 v12 v13_33 h31)))))))))))))))
set_option maxRecDepth 100000 in
theorem jX11_two_81 {r : Int32} {h0 : HS} (k63 : Int64 → Int64 → Int64 → Int32 → Int32 → HS → Option (Int32 × HS)) (hk63 : ∀ (v5 : Int64) (v7 : Int64) (v9 : Int64) (v11 : Int32) (v12 : Int32) (h : HS), k63 v5 v7 v9 v11 v12 h = some (r, h0) → Jx skC RX11 cX11_two 16 (some .int) 3 (some (.int r)) h0 63 [some (.ref 0), none, none, none, none, some (.long v5), none, some (.long v7), none, some (.long v9), none, some (.int v11), some (.int v12), none, none, none] [] h) : ∀ (n : Nat) (v5 : Int64) (v7 : Int64) (v9 : Int64) (v11 : Int32) (v12 : Int32) (v13 : Int32) (h : HS), fX11_two_81 k63 n v5 v7 v9 v11 v12 v13 h = some (r, h0) → Jx skC RX11 cX11_two 16 (some .int) 3 (some (.int r)) h0 81 [some (.ref 0), none, none, none, none, some (.long v5), none, some (.long v7), none, some (.long v9), none, some (.int v11), some (.int v12), some (.int v13), none, none] [] h := by
  intro n
  induction n with
  | zero => intro v5 v7 v9 v11 v12 v13  h H; cases H
  | succ n ih =>
    intro v5 v7 v9 v11 v12 v13  h H
    rw [fX11_two_81] at H
    refine j_iload (pc := 81) dX11_two_81 rfl ?_
    refine j_aload_n (pc := 83) dX11_two_83 rfl ?_
    refine j_getR (pc := 84) (b := 2) dX11_two_84 flX11_20 rfl ?_
    refine j_getI (pc := 87) dX11_two_87 flX11_104 rfl ?_
    refine j_icmp_ge (pc := 90) (tgt := 238) dX11_two_90 (by decide) (fun c16 => ?_) (fun c16 => ?_)
    · rw [if_pos c16] at H
      obtain ⟨v12_17, ev12_17, H⟩ := nm_x H
      refine j_iinc (pc := 238) (L' := [some (.ref 0), none, none, none, none, some (.long v5), none, some (.long v7), none, some (.long v9), none, some (.int v11), some (.int v12_17), some (.int v13), none, none]) (w := 1) dX11_two_238 rfl (by decide) (by decide) v12_17 ev12_17 rfl ?_
      refine j_goto (pc := 241) (tgt := 63) dX11_two_241 (by decide) ?_
      refine Jx.sub (L' := [some (.ref 0), none, none, none, none, some (.long v5), none, some (.long v7), none, some (.long v9), none, some (.int v11), some (.int v12_17), none, none, none]) (⟨rfl, ⟨rfl, ⟨rfl, ⟨rfl, ⟨rfl, ⟨rfl, trivial⟩⟩⟩⟩⟩⟩) ?_
      exact hk63 v5 v7 v9 v11 v12_17 h H
    · rw [if_neg c16] at H
      refine j_aload_n (pc := 93) dX11_two_93 rfl ?_
      refine j_iload (pc := 94) dX11_two_94 rfl ?_
      refine j_iload (pc := 96) dX11_two_96 rfl ?_
      refine j_lload (pc := 98) dX11_two_98 rfl ?_
      obtain ⟨h18, eh18, H⟩ := bv_x H
      refine j_callV (pc := 100) dX11_two_100 mlX11_252 wyX11_boundFirst (tX11_boundFirst eh18) (by decide) rfl rfl rfl rfl (by simp [Value.category]) rfl ?_
      refine j_aload_n (pc := 103) dX11_two_103 rfl ?_
      refine j_getR (pc := 104) (b := 10) dX11_two_104 flX11_77 rfl ?_
      refine j_lconst (pc := 107) (v := 0) dX11_two_107 (by decide) ?_
      refine j_aload_n (pc := 108) dX11_two_108 rfl ?_
      refine j_getR (pc := 109) (b := 2) dX11_two_109 flX11_20 rfl ?_
      refine j_getR (pc := 112) (b := 27) dX11_two_112 flX11_164 rfl ?_
      refine j_iload (pc := 115) dX11_two_115 rfl ?_
      obtain ⟨b19, H⟩ := ck_x H
      refine j_iaload (pc := 117) dX11_two_117 rfl b19 rfl ?_
      refine j_aload_n (pc := 118) dX11_two_118 rfl ?_
      refine j_getR (pc := 119) (b := 2) dX11_two_119 flX11_20 rfl ?_
      refine j_getR (pc := 122) (b := 27) dX11_two_122 flX11_164 rfl ?_
      refine j_iload (pc := 125) dX11_two_125 rfl ?_
      obtain ⟨b20, H⟩ := ck_x H
      refine j_iaload (pc := 127) dX11_two_127 rfl b20 rfl ?_
      refine j_isub (pc := 128) dX11_two_128 ?_
      refine j_i2l (pc := 129) dX11_two_129 ?_
      refine j_lload (pc := 130) dX11_two_130 rfl ?_
      refine j_aload_n (pc := 132) dX11_two_132 rfl ?_
      refine j_getR (pc := 133) (b := 2) dX11_two_133 flX11_20 rfl ?_
      refine j_getR (pc := 136) (b := 27) dX11_two_136 flX11_164 rfl ?_
      refine j_iload (pc := 139) dX11_two_139 rfl ?_
      obtain ⟨b21, H⟩ := ck_x H
      refine j_iaload (pc := 141) dX11_two_141 rfl b21 rfl ?_
      refine j_i2l (pc := 142) dX11_two_142 ?_
      refine j_lload (pc := 143) dX11_two_143 rfl ?_
      refine j_lmul (pc := 145) dX11_two_145 ?_
      refine j_lsub (pc := 146) dX11_two_146 ?_
      obtain ⟨h22, eh22, H⟩ := bv_x H
      refine j_callV (pc := 147) dX11_two_147 mlX11_256 wyX7_fix (tX7_fix rfl eh22) (by decide) rfl rfl rfl rfl (by simp [Value.category]) rfl ?_
      refine j_aload_n (pc := 150) dX11_two_150 rfl ?_
      refine j_getR (pc := 151) (b := 10) dX11_two_151 flX11_77 rfl ?_
      refine j_lconst (pc := 154) (v := 0) dX11_two_154 (by decide) ?_
      refine j_aload_n (pc := 155) dX11_two_155 rfl ?_
      refine j_getR (pc := 156) (b := 2) dX11_two_156 flX11_20 rfl ?_
      refine j_getR (pc := 159) (b := 28) dX11_two_159 flX11_167 rfl ?_
      refine j_iload (pc := 162) dX11_two_162 rfl ?_
      obtain ⟨b23, H⟩ := ck_x H
      refine j_iaload (pc := 164) dX11_two_164 rfl b23 rfl ?_
      refine j_aload_n (pc := 165) dX11_two_165 rfl ?_
      refine j_getR (pc := 166) (b := 2) dX11_two_166 flX11_20 rfl ?_
      refine j_getR (pc := 169) (b := 28) dX11_two_169 flX11_167 rfl ?_
      refine j_iload (pc := 172) dX11_two_172 rfl ?_
      obtain ⟨b24, H⟩ := ck_x H
      refine j_iaload (pc := 174) dX11_two_174 rfl b24 rfl ?_
      refine j_isub (pc := 175) dX11_two_175 ?_
      refine j_i2l (pc := 176) dX11_two_176 ?_
      refine j_lload (pc := 177) dX11_two_177 rfl ?_
      refine j_aload_n (pc := 179) dX11_two_179 rfl ?_
      refine j_getR (pc := 180) (b := 2) dX11_two_180 flX11_20 rfl ?_
      refine j_getR (pc := 183) (b := 28) dX11_two_183 flX11_167 rfl ?_
      refine j_iload (pc := 186) dX11_two_186 rfl ?_
      obtain ⟨b25, H⟩ := ck_x H
      refine j_iaload (pc := 188) dX11_two_188 rfl b25 rfl ?_
      refine j_i2l (pc := 189) dX11_two_189 ?_
      refine j_lload (pc := 190) dX11_two_190 rfl ?_
      refine j_lmul (pc := 192) dX11_two_192 ?_
      refine j_lsub (pc := 193) dX11_two_193 ?_
      obtain ⟨h26, eh26, H⟩ := bv_x H
      refine j_callV (pc := 194) dX11_two_194 mlX11_256 wyX7_fix (tX7_fix rfl eh26) (by decide) rfl rfl rfl rfl (by simp [Value.category]) rfl ?_
      refine j_aload_n (pc := 197) dX11_two_197 rfl ?_
      refine j_lload (pc := 198) dX11_two_198 rfl ?_
      obtain ⟨r28, h27, eh27, H⟩ := bd_x H
      refine j_callV (pc := 200) dX11_two_200 mlX11_260 wyX11_firstChange (tX11_firstChange eh27) (by decide) rfl rfl rfl rfl (by simp [Value.category]) rfl ?_
      refine j_lstore (pc := 203) (L' := [some (.ref 0), none, none, none, none, some (.long v5), none, some (.long v7), none, some (.long v9), none, some (.int v11), some (.int v12), some (.int v13), some (.long r28), none]) dX11_two_203 (by decide) rfl ?_
      refine j_lload (pc := 205) dX11_two_205 rfl ?_
      refine j_lconst (pc := 207) (v := 0) dX11_two_207 (by decide) ?_
      refine j_lcmp (pc := 208) dX11_two_208 ?_
      refine j_if_eq (pc := 209) (tgt := 232) dX11_two_209 (by decide) (fun c29 => ?_) (fun c29 => ?_)
      · rw [if_pos c29] at H
        obtain ⟨v13_30, ev13_30, H⟩ := nm_x H
        refine j_iinc (pc := 232) (L' := [some (.ref 0), none, none, none, none, some (.long v5), none, some (.long v7), none, some (.long v9), none, some (.int v11), some (.int v12), some (.int v13_30), some (.long r28), none]) (w := 1) dX11_two_232 rfl (by decide) (by decide) v13_30 ev13_30 rfl ?_
        refine j_goto (pc := 235) (tgt := 81) dX11_two_235 (by decide) ?_
        refine Jx.sub (L' := [some (.ref 0), none, none, none, none, some (.long v5), none, some (.long v7), none, some (.long v9), none, some (.int v11), some (.int v12), some (.int v13_30), none, none]) (⟨rfl, ⟨rfl, ⟨rfl, ⟨rfl, ⟨rfl, ⟨rfl, ⟨rfl, trivial⟩⟩⟩⟩⟩⟩⟩) ?_
        exact ih v5 v7 v9 v11 v12 v13_30 h27 H
      · rw [if_neg c29] at H
        refine j_aload_n (pc := 212) dX11_two_212 rfl ?_
        refine j_iload (pc := 213) dX11_two_213 rfl ?_
        refine j_iload (pc := 215) dX11_two_215 rfl ?_
        refine j_lload (pc := 217) dX11_two_217 rfl ?_
        refine j_l2i (pc := 219) dX11_two_219 ?_
        refine j_lload (pc := 220) dX11_two_220 rfl ?_
        refine j_lload (pc := 222) dX11_two_222 rfl ?_
        refine j_lsub (pc := 224) dX11_two_224 ?_
        refine j_l2i (pc := 225) dX11_two_225 ?_
        obtain ⟨h31, eh31, H⟩ := bv_x H
        refine j_callV (pc := 226) dX11_two_226 mlX11_264 wyX11_tellFirstPair (tX11_tellFirstPair eh31) (by decide) rfl rfl rfl rfl (by simp [Value.category]) rfl ?_
        obtain ⟨v11_32, ev11_32, H⟩ := nm_x H
        refine j_iinc (pc := 229) (L' := [some (.ref 0), none, none, none, none, some (.long v5), none, some (.long v7), none, some (.long v9), none, some (.int v11_32), some (.int v12), some (.int v13), some (.long r28), none]) (w := 1) dX11_two_229 rfl (by decide) (by decide) v11_32 ev11_32 rfl ?_
        obtain ⟨v13_33, ev13_33, H⟩ := nm_x H
        refine j_iinc (pc := 232) (L' := [some (.ref 0), none, none, none, none, some (.long v5), none, some (.long v7), none, some (.long v9), none, some (.int v11_32), some (.int v12), some (.int v13_33), some (.long r28), none]) (w := 1) dX11_two_232 rfl (by decide) (by decide) v13_33 ev13_33 rfl ?_
        refine j_goto (pc := 235) (tgt := 81) dX11_two_235 (by decide) ?_
        refine Jx.sub (L' := [some (.ref 0), none, none, none, none, some (.long v5), none, some (.long v7), none, some (.long v9), none, some (.int v11_32), some (.int v12), some (.int v13_33), none, none]) (⟨rfl, ⟨rfl, ⟨rfl, ⟨rfl, ⟨rfl, ⟨rfl, ⟨rfl, trivial⟩⟩⟩⟩⟩⟩⟩) ?_
        exact ih v5 v7 v9 v11_32 v12 v13_33 h31 H
noncomputable def fX11_two_63 : Nat → Int64 → Int64 → Int64 → Int32 → Int32 → HS → Option (Int32 × HS)
  | 0, _, _, _, _, _, _ => none
  | n + 1, v5, v7, v9, v11, v12, h => if (gI h 2 8) ≤ v12 then (some (v11, h)) else (nm ((v12 + (1 : Int32))) (fun v13_15 => fX11_two_81 (fX11_two_63 n) FU v5 v7 v9 v11 v12 v13_15 h))
set_option maxRecDepth 100000 in
theorem jX11_two_63 {r : Int32} {h0 : HS} : ∀ (n : Nat) (v5 : Int64) (v7 : Int64) (v9 : Int64) (v11 : Int32) (v12 : Int32) (h : HS), fX11_two_63 n v5 v7 v9 v11 v12 h = some (r, h0) → Jx skC RX11 cX11_two 16 (some .int) 3 (some (.int r)) h0 63 [some (.ref 0), none, none, none, none, some (.long v5), none, some (.long v7), none, some (.long v9), none, some (.int v11), some (.int v12), none, none, none] [] h := by
  intro n
  induction n with
  | zero => intro v5 v7 v9 v11 v12  h H; cases H
  | succ n ih =>
    intro v5 v7 v9 v11 v12  h H
    rw [fX11_two_63] at H
    refine j_iload (pc := 63) dX11_two_63 rfl ?_
    refine j_aload_n (pc := 65) dX11_two_65 rfl ?_
    refine j_getR (pc := 66) (b := 2) dX11_two_66 flX11_20 rfl ?_
    refine j_getI (pc := 69) dX11_two_69 flX11_104 rfl ?_
    refine j_icmp_ge (pc := 72) (tgt := 244) dX11_two_72 (by decide) (fun c14 => ?_) (fun c14 => ?_)
    · rw [if_pos c14] at H
      refine j_iload (pc := 244) dX11_two_244 rfl ?_
      exact j_ireturn (pc := 246) dX11_two_246 rfl (ri_1 H) (ri_2 H)
    · rw [if_neg c14] at H
      refine j_iload (pc := 75) dX11_two_75 rfl ?_
      refine j_iconst (pc := 77) (v := 1) dX11_two_77 (by decide) ?_
      refine j_iadd (pc := 78) dX11_two_78 ?_
      obtain ⟨v13_15, ev13_15, H⟩ := nm_x H
      refine j_topi ev13_15 ?_
      refine j_istore (pc := 79) (L' := [some (.ref 0), none, none, none, none, some (.long v5), none, some (.long v7), none, some (.long v9), none, some (.int v11), some (.int v12), some (.int v13_15), none, none]) dX11_two_79 (by decide) rfl ?_
      refine Jx.sub (L' := [some (.ref 0), none, none, none, none, some (.long v5), none, some (.long v7), none, some (.long v9), none, some (.int v11), some (.int v12), some (.int v13_15), none, none]) (⟨rfl, ⟨rfl, ⟨rfl, ⟨rfl, ⟨rfl, ⟨rfl, ⟨rfl, trivial⟩⟩⟩⟩⟩⟩⟩) ?_
      exact jX11_two_81 _ ih FU v5 v7 v9 v11 v12 v13_15 h H
noncomputable def fX11_two (p1 : Int32) (p2 : Int32) (p3 : Int32) (p4 : Int32) (h : HS) : Option (Int32 × HS) := bd (fX11_isDepth p1 h) (fun r2 h1 => if r2 = 0 then (some ((-1 : Int32), h1)) else (bd (fX0_heavyAt p1 h1) (fun r5 h4 => nm (((p2.toInt64) - (r5.toInt64))) (fun v5_6 => bd (fX0_momentNow h4) (fun r8 h7 => nm (((p3.toInt64) - (r8.toInt64))) (fun v7_9 => bd (fX0_listNow h7) (fun r11 h10 => nm (((p4.toInt64) - (r11.toInt64))) (fun v9_12 => bv (fX6_empty h10) (fun h13 => fX11_two_63 FU v5_6 v7_9 v9_12 (0 : Int32) (0 : Int32) h13)))))))))
set_option maxRecDepth 100000 in
theorem tX11_two {p1 : Int32} {p2 : Int32} {p3 : Int32} {p4 : Int32} {r : Int32} {h h0 : HS} (H : fX11_two p1 p2 p3 p4 h = some (r, h0)) : Cn skC yX11_two cX11_two 16 (some .int) 3 [.ref 0, .int p1, .int p2, .int p3, .int p4] h (some (.int r)) h0 := by
  refine Cn_of (L := [some (.ref 0), some (.int p1), some (.int p2), some (.int p3), some (.int p4), none, none, none, none, none, none, none, none, none, none, none]) (by decide +kernel) (by simp [lg_sl, Value.category]) (fun ad => by simp [lg_sl, tv, Value.category]) (⟨rfl, ⟨rfl, ⟨rfl, ⟨rfl, ⟨rfl, trivial⟩⟩⟩⟩⟩) ?_
  unfold fX11_two at H
  refine j_iload_n (pc := 0) dX11_two_0 rfl ?_
  obtain ⟨r2, h1, eh1, H⟩ := bd_x H
  refine j_callS (pc := 1) dX11_two_1 mlX11_142 wyX11_isDepth (tX11_isDepth eh1) (by decide) rfl (by simp [Value.category]) rfl ?_
  refine j_if_ne (pc := 4) (tgt := 9) dX11_two_4 (by decide) (fun c3 => ?_) (fun c3 => ?_)
  · rw [if_neg c3] at H
    refine j_iload_n (pc := 9) dX11_two_9 rfl ?_
    refine j_i2l (pc := 10) dX11_two_10 ?_
    refine j_aload_n (pc := 11) dX11_two_11 rfl ?_
    refine j_getR (pc := 12) (b := 1) dX11_two_12 flX11_10 rfl ?_
    refine j_iload_n (pc := 15) dX11_two_15 rfl ?_
    obtain ⟨r5, h4, eh4, H⟩ := bd_x H
    refine j_callV (pc := 16) dX11_two_16 mlX11_174 wyX0_heavyAt (tX0_heavyAt eh4) (by decide) rfl rfl rfl rfl (by simp [Value.category]) rfl ?_
    refine j_i2l (pc := 19) dX11_two_19 ?_
    refine j_lsub (pc := 20) dX11_two_20 ?_
    obtain ⟨v5_6, ev5_6, H⟩ := nm_x H
    refine j_topl ev5_6 ?_
    refine j_lstore (pc := 21) (L' := [some (.ref 0), some (.int p1), some (.int p2), some (.int p3), some (.int p4), some (.long v5_6), none, none, none, none, none, none, none, none, none, none]) dX11_two_21 (by decide) rfl ?_
    refine j_iload_n (pc := 23) dX11_two_23 rfl ?_
    refine j_i2l (pc := 24) dX11_two_24 ?_
    refine j_aload_n (pc := 25) dX11_two_25 rfl ?_
    refine j_getR (pc := 26) (b := 1) dX11_two_26 flX11_10 rfl ?_
    obtain ⟨r8, h7, eh7, H⟩ := bd_x H
    refine j_callV (pc := 29) dX11_two_29 mlX11_180 wyX0_momentNow (tX0_momentNow eh7) (by decide) rfl rfl rfl rfl (by simp [Value.category]) rfl ?_
    refine j_i2l (pc := 32) dX11_two_32 ?_
    refine j_lsub (pc := 33) dX11_two_33 ?_
    obtain ⟨v7_9, ev7_9, H⟩ := nm_x H
    refine j_topl ev7_9 ?_
    refine j_lstore (pc := 34) (L' := [some (.ref 0), some (.int p1), some (.int p2), some (.int p3), some (.int p4), some (.long v5_6), none, some (.long v7_9), none, none, none, none, none, none, none, none]) dX11_two_34 (by decide) rfl ?_
    refine j_iload (pc := 36) dX11_two_36 rfl ?_
    refine j_i2l (pc := 38) dX11_two_38 ?_
    refine j_aload_n (pc := 39) dX11_two_39 rfl ?_
    refine j_getR (pc := 40) (b := 1) dX11_two_40 flX11_10 rfl ?_
    obtain ⟨r11, h10, eh10, H⟩ := bd_x H
    refine j_callV (pc := 43) dX11_two_43 mlX11_184 wyX0_listNow (tX0_listNow eh10) (by decide) rfl rfl rfl rfl (by simp [Value.category]) rfl ?_
    refine j_i2l (pc := 46) dX11_two_46 ?_
    refine j_lsub (pc := 47) dX11_two_47 ?_
    obtain ⟨v9_12, ev9_12, H⟩ := nm_x H
    refine j_topl ev9_12 ?_
    refine j_lstore (pc := 48) (L' := [some (.ref 0), some (.int p1), some (.int p2), some (.int p3), some (.int p4), some (.long v5_6), none, some (.long v7_9), none, some (.long v9_12), none, none, none, none, none, none]) dX11_two_48 (by decide) rfl ?_
    refine j_iconst (pc := 50) (v := 0) dX11_two_50 (by decide) ?_
    refine j_istore (pc := 51) (L' := [some (.ref 0), some (.int p1), some (.int p2), some (.int p3), some (.int p4), some (.long v5_6), none, some (.long v7_9), none, some (.long v9_12), none, some (.int (0 : Int32)), none, none, none, none]) dX11_two_51 (by decide) rfl ?_
    refine j_aload_n (pc := 53) dX11_two_53 rfl ?_
    refine j_getR (pc := 54) (b := 4) dX11_two_54 flX11_29 rfl ?_
    obtain ⟨h13, eh13, H⟩ := bv_x H
    refine j_callV (pc := 57) dX11_two_57 mlX11_207 wyX6_empty (tX6_empty eh13) (by decide) rfl rfl rfl rfl (by simp [Value.category]) rfl ?_
    refine j_iconst (pc := 60) (v := 0) dX11_two_60 (by decide) ?_
    refine j_istore (pc := 61) (L' := [some (.ref 0), some (.int p1), some (.int p2), some (.int p3), some (.int p4), some (.long v5_6), none, some (.long v7_9), none, some (.long v9_12), none, some (.int (0 : Int32)), some (.int (0 : Int32)), none, none, none]) dX11_two_61 (by decide) rfl ?_
    refine Jx.sub (L' := [some (.ref 0), none, none, none, none, some (.long v5_6), none, some (.long v7_9), none, some (.long v9_12), none, some (.int (0 : Int32)), some (.int (0 : Int32)), none, none, none]) (⟨rfl, ⟨rfl, ⟨rfl, ⟨rfl, ⟨rfl, ⟨rfl, trivial⟩⟩⟩⟩⟩⟩) ?_
    exact jX11_two_63 FU v5_6 v7_9 v9_12 (0 : Int32) (0 : Int32) h13 H
  · rw [if_pos c3] at H
    refine j_iconst (pc := 7) (v := -1) dX11_two_7 (by decide) ?_
    exact j_ireturn (pc := 8) dX11_two_8 rfl (ri_1 H) (ri_2 H)

noncomputable def fX11_isPumpEnd_17 (h : HS) : Option (Int32 × HS) := some ((1 : Int32), h)
set_option maxRecDepth 100000 in
theorem jX11_isPumpEnd_17 {r : Int32} {h0 : HS} (h : HS) (H : fX11_isPumpEnd_17 h = some (r, h0)) : Jx skC RX11 cX11_isPumpEnd 2 (some .boolean) 2 (some (.int r)) h0 17 [none, none] [] h := by
  unfold fX11_isPumpEnd_17 at H
  refine j_iconst (pc := 17) (v := 1) dX11_isPumpEnd_17 (by decide) ?_
  refine j_goto (pc := 18) (tgt := 22) dX11_isPumpEnd_18 (by decide) ?_
  exact j_zreturn (pc := 22) dX11_isPumpEnd_22 rfl (rz1 H) (ri_2 H)
noncomputable def fX11_isPumpEnd (p1 : Int32) (h : HS) : Option (Int32 × HS) := if p1 = (-1 : Int32) then (fX11_isPumpEnd_17 h) else (bd (fX4_isA p1 (0 : Int32) h) (fun r3 h2 => if r3 = 0 then (some ((0 : Int32), h2)) else (fX11_isPumpEnd_17 h2)))
set_option maxRecDepth 100000 in
theorem tX11_isPumpEnd {p1 : Int32} {r : Int32} {h h0 : HS} (H : fX11_isPumpEnd p1 h = some (r, h0)) : Cn skC yX11_isPumpEnd cX11_isPumpEnd 2 (some .boolean) 2 [.ref 0, .int p1] h (some (.int r)) h0 := by
  refine Cn_of (L := [some (.ref 0), some (.int p1)]) (by decide +kernel) (by simp [lg_sl, Value.category]) (fun ad => by simp [lg_sl, tv, Value.category]) (⟨rfl, ⟨rfl, trivial⟩⟩) ?_
  unfold fX11_isPumpEnd at H
  refine j_iload_n (pc := 0) dX11_isPumpEnd_0 rfl ?_
  refine j_iconst (pc := 1) (v := -1) dX11_isPumpEnd_1 (by decide) ?_
  refine j_icmp_eq (pc := 2) (tgt := 17) dX11_isPumpEnd_2 (by decide) (fun c1 => ?_) (fun c1 => ?_)
  · rw [if_pos c1] at H
    refine Jx.sub (L' := [none, none]) (trivial) ?_
    exact jX11_isPumpEnd_17 h H
  · rw [if_neg c1] at H
    refine j_aload_n (pc := 5) dX11_isPumpEnd_5 rfl ?_
    refine j_getR (pc := 6) (b := 2) dX11_isPumpEnd_6 flX11_20 rfl ?_
    refine j_iload_n (pc := 9) dX11_isPumpEnd_9 rfl ?_
    refine j_iconst (pc := 10) (v := 0) dX11_isPumpEnd_10 (by decide) ?_
    obtain ⟨r3, h2, eh2, H⟩ := bd_x H
    refine j_callV (pc := 11) dX11_isPumpEnd_11 mlX11_295 wyX4_isA (tX4_isA eh2) (by decide) rfl rfl rfl rfl (by simp [Value.category]) rfl ?_
    refine j_if_eq (pc := 14) (tgt := 21) dX11_isPumpEnd_14 (by decide) (fun c4 => ?_) (fun c4 => ?_)
    · rw [if_pos c4] at H
      refine j_iconst (pc := 21) (v := 0) dX11_isPumpEnd_21 (by decide) ?_
      exact j_zreturn (pc := 22) dX11_isPumpEnd_22 rfl (rz0 H) (ri_2 H)
    · rw [if_neg c4] at H
      refine Jx.sub (L' := [none, none]) (trivial) ?_
      exact jX11_isPumpEnd_17 h2 H

noncomputable def fX11_pump_26 (v1 : Int32) (v2 : Int32) (v3 : Int32) (v4 : Int32) (s0 : Int32) (h : HS) : Option (Int32 × HS) := if s0 = 0 then (some ((-1 : Int32), h)) else (bd (fX11_between v3 (1 : Int32) (50 : Int32) h) (fun r10 h9 => if r10 = 0 then (some ((-1 : Int32), h9)) else (bd (fX5_add v1 v2 v3 v4 h9) (fun r13 h12 => some (r13, h12)))))
set_option maxRecDepth 100000 in
theorem jX11_pump_26 {r : Int32} {h0 : HS} (v1 : Int32) (v2 : Int32) (v3 : Int32) (v4 : Int32) (s0 : Int32) (h : HS) (H : fX11_pump_26 v1 v2 v3 v4 s0 h = some (r, h0)) : Jx skC RX11 cX11_pump 6 (some .int) 3 (some (.int r)) h0 26 [some (.ref 0), some (.int v1), some (.int v2), some (.int v3), some (.int v4), none] [.int s0] h := by
  unfold fX11_pump_26 at H
  refine j_istore (pc := 26) (L' := [some (.ref 0), some (.int v1), some (.int v2), some (.int v3), some (.int v4), some (.int s0)]) dX11_pump_26 (by decide) rfl ?_
  refine j_iload (pc := 28) dX11_pump_28 rfl ?_
  refine j_if_eq (pc := 30) (tgt := 43) dX11_pump_30 (by decide) (fun c8 => ?_) (fun c8 => ?_)
  · rw [if_pos c8] at H
    refine j_iconst (pc := 43) (v := -1) dX11_pump_43 (by decide) ?_
    exact j_ireturn (pc := 44) dX11_pump_44 rfl (ri_1 H) (ri_2 H)
  · rw [if_neg c8] at H
    refine j_iload_n (pc := 33) dX11_pump_33 rfl ?_
    refine j_iconst (pc := 34) (v := 1) dX11_pump_34 (by decide) ?_
    refine j_bipush (pc := 35) (v := 50) dX11_pump_35 (by decide) ?_
    obtain ⟨r10, h9, eh9, H⟩ := bd_x H
    refine j_callS (pc := 37) dX11_pump_37 mlX11_81 wyX11_between (tX11_between eh9) (by decide) rfl (by simp [Value.category]) rfl ?_
    refine j_if_ne (pc := 40) (tgt := 45) dX11_pump_40 (by decide) (fun c11 => ?_) (fun c11 => ?_)
    · rw [if_neg c11] at H
      refine j_aload_n (pc := 45) dX11_pump_45 rfl ?_
      refine j_getR (pc := 46) (b := 6) dX11_pump_46 flX11_49 rfl ?_
      refine j_iload_n (pc := 49) dX11_pump_49 rfl ?_
      refine j_iload_n (pc := 50) dX11_pump_50 rfl ?_
      refine j_iload_n (pc := 51) dX11_pump_51 rfl ?_
      refine j_iload (pc := 52) dX11_pump_52 rfl ?_
      obtain ⟨r13, h12, eh12, H⟩ := bd_x H
      refine j_callV (pc := 54) dX11_pump_54 mlX11_292 wyX5_add (tX5_add eh12) (by decide) rfl rfl rfl rfl (by simp [Value.category]) rfl ?_
      exact j_ireturn (pc := 57) dX11_pump_57 rfl (ri_1 H) (ri_2 H)
    · rw [if_pos c11] at H
      refine j_iconst (pc := 43) (v := -1) dX11_pump_43 (by decide) ?_
      exact j_ireturn (pc := 44) dX11_pump_44 rfl (ri_1 H) (ri_2 H)
noncomputable def fX11_pump_25 (v1 : Int32) (v2 : Int32) (v3 : Int32) (v4 : Int32) (h : HS) : Option (Int32 × HS) := fX11_pump_26 v1 v2 v3 v4 (0 : Int32) h
set_option maxRecDepth 100000 in
theorem jX11_pump_25 {r : Int32} {h0 : HS} (v1 : Int32) (v2 : Int32) (v3 : Int32) (v4 : Int32) (h : HS) (H : fX11_pump_25 v1 v2 v3 v4 h = some (r, h0)) : Jx skC RX11 cX11_pump 6 (some .int) 3 (some (.int r)) h0 25 [some (.ref 0), some (.int v1), some (.int v2), some (.int v3), some (.int v4), none] [] h := by
  unfold fX11_pump_25 at H
  refine j_iconst (pc := 25) (v := 0) dX11_pump_25 (by decide) ?_
  refine Jx.sub (L' := [some (.ref 0), some (.int v1), some (.int v2), some (.int v3), some (.int v4), none]) (⟨rfl, ⟨rfl, ⟨rfl, ⟨rfl, ⟨rfl, trivial⟩⟩⟩⟩⟩) ?_
  exact jX11_pump_26 v1 v2 v3 v4 (0 : Int32) h H
noncomputable def fX11_pump (p1 : Int32) (p2 : Int32) (p3 : Int32) (p4 : Int32) (h : HS) : Option (Int32 × HS) := bd (fX11_isPumpEnd p1 h) (fun r2 h1 => if r2 = 0 then (fX11_pump_25 p1 p2 p3 p4 h1) else (bd (fX11_isPumpEnd p2 h1) (fun r5 h4 => if r5 = 0 then (fX11_pump_25 p1 p2 p3 p4 h4) else (if p1 = p2 then (fX11_pump_25 p1 p2 p3 p4 h4) else (fX11_pump_26 p1 p2 p3 p4 (1 : Int32) h4)))))
set_option maxRecDepth 100000 in
theorem tX11_pump {p1 : Int32} {p2 : Int32} {p3 : Int32} {p4 : Int32} {r : Int32} {h h0 : HS} (H : fX11_pump p1 p2 p3 p4 h = some (r, h0)) : Cn skC yX11_pump cX11_pump 6 (some .int) 3 [.ref 0, .int p1, .int p2, .int p3, .int p4] h (some (.int r)) h0 := by
  refine Cn_of (L := [some (.ref 0), some (.int p1), some (.int p2), some (.int p3), some (.int p4), none]) (by decide +kernel) (by simp [lg_sl, Value.category]) (fun ad => by simp [lg_sl, tv, Value.category]) (⟨rfl, ⟨rfl, ⟨rfl, ⟨rfl, ⟨rfl, trivial⟩⟩⟩⟩⟩) ?_
  unfold fX11_pump at H
  refine j_aload_n (pc := 0) dX11_pump_0 rfl ?_
  refine j_iload_n (pc := 1) dX11_pump_1 rfl ?_
  obtain ⟨r2, h1, eh1, H⟩ := bd_x H
  refine j_callV (pc := 2) dX11_pump_2 mlX11_289 wyX11_isPumpEnd (tX11_isPumpEnd eh1) (by decide) rfl rfl rfl rfl (by simp [Value.category]) rfl ?_
  refine j_if_eq (pc := 5) (tgt := 25) dX11_pump_5 (by decide) (fun c3 => ?_) (fun c3 => ?_)
  · rw [if_pos c3] at H
    refine Jx.sub (L' := [some (.ref 0), some (.int p1), some (.int p2), some (.int p3), some (.int p4), none]) (⟨rfl, ⟨rfl, ⟨rfl, ⟨rfl, ⟨rfl, trivial⟩⟩⟩⟩⟩) ?_
    exact jX11_pump_25 p1 p2 p3 p4 h1 H
  · rw [if_neg c3] at H
    refine j_aload_n (pc := 8) dX11_pump_8 rfl ?_
    refine j_iload_n (pc := 9) dX11_pump_9 rfl ?_
    obtain ⟨r5, h4, eh4, H⟩ := bd_x H
    refine j_callV (pc := 10) dX11_pump_10 mlX11_289 wyX11_isPumpEnd (tX11_isPumpEnd eh4) (by decide) rfl rfl rfl rfl (by simp [Value.category]) rfl ?_
    refine j_if_eq (pc := 13) (tgt := 25) dX11_pump_13 (by decide) (fun c6 => ?_) (fun c6 => ?_)
    · rw [if_pos c6] at H
      refine Jx.sub (L' := [some (.ref 0), some (.int p1), some (.int p2), some (.int p3), some (.int p4), none]) (⟨rfl, ⟨rfl, ⟨rfl, ⟨rfl, ⟨rfl, trivial⟩⟩⟩⟩⟩) ?_
      exact jX11_pump_25 p1 p2 p3 p4 h4 H
    · rw [if_neg c6] at H
      refine j_iload_n (pc := 16) dX11_pump_16 rfl ?_
      refine j_iload_n (pc := 17) dX11_pump_17 rfl ?_
      refine j_icmp_eq (pc := 18) (tgt := 25) dX11_pump_18 (by decide) (fun c7 => ?_) (fun c7 => ?_)
      · rw [if_pos c7] at H
        refine Jx.sub (L' := [some (.ref 0), some (.int p1), some (.int p2), some (.int p3), some (.int p4), none]) (⟨rfl, ⟨rfl, ⟨rfl, ⟨rfl, ⟨rfl, trivial⟩⟩⟩⟩⟩) ?_
        exact jX11_pump_25 p1 p2 p3 p4 h4 H
      · rw [if_neg c7] at H
        refine j_iconst (pc := 21) (v := 1) dX11_pump_21 (by decide) ?_
        refine j_goto (pc := 22) (tgt := 26) dX11_pump_22 (by decide) ?_
        refine Jx.sub (L' := [some (.ref 0), some (.int p1), some (.int p2), some (.int p3), some (.int p4), none]) (⟨rfl, ⟨rfl, ⟨rfl, ⟨rfl, ⟨rfl, trivial⟩⟩⟩⟩⟩) ?_
        exact jX11_pump_26 p1 p2 p3 p4 (1 : Int32) h4 H

noncomputable def fX11_run (p1 : Int32) (p2 : Int32) (h : HS) : Option (Int32 × HS) := bd (fX5_there p1 h) (fun r2 h1 => if r2 = 0 then (some ((-1 : Int32), h1)) else (if p2 = 0 then (some ((-1 : Int32), h1)) else (bd (fX11_between p2 (-99 : Int32) (99 : Int32) h1) (fun r6 h5 => if r6 = 0 then (some ((-1 : Int32), h5)) else (bd (fX5_can p1 p2 h5) (fun r9 h8 => if r9 = 0 then (some ((-2 : Int32), h8)) else (bv (fX5_move p1 p2 h8) (fun h11 => ck (inb p1 6) (some (((iabs p2) * (gI h11 42 p1.toNatClampNeg)), h11))))))))))
set_option maxRecDepth 100000 in
theorem tX11_run {p1 : Int32} {p2 : Int32} {r : Int32} {h h0 : HS} (H : fX11_run p1 p2 h = some (r, h0)) : Cn skC yX11_run cX11_run 3 (some .int) 3 [.ref 0, .int p1, .int p2] h (some (.int r)) h0 := by
  refine Cn_of (L := [some (.ref 0), some (.int p1), some (.int p2)]) (by decide +kernel) (by simp [lg_sl, Value.category]) (fun ad => by simp [lg_sl, tv, Value.category]) (⟨rfl, ⟨rfl, ⟨rfl, trivial⟩⟩⟩) ?_
  unfold fX11_run at H
  refine j_aload_n (pc := 0) dX11_run_0 rfl ?_
  refine j_getR (pc := 1) (b := 6) dX11_run_1 flX11_49 rfl ?_
  refine j_iload_n (pc := 4) dX11_run_4 rfl ?_
  obtain ⟨r2, h1, eh1, H⟩ := bd_x H
  refine j_callV (pc := 5) dX11_run_5 mlX11_298 wyX5_there (tX5_there eh1) (by decide) rfl rfl rfl rfl (by simp [Value.category]) rfl ?_
  refine j_if_eq (pc := 8) (tgt := 26) dX11_run_8 (by decide) (fun c3 => ?_) (fun c3 => ?_)
  · rw [if_pos c3] at H
    refine j_iconst (pc := 26) (v := -1) dX11_run_26 (by decide) ?_
    exact j_ireturn (pc := 27) dX11_run_27 rfl (ri_1 H) (ri_2 H)
  · rw [if_neg c3] at H
    refine j_iload_n (pc := 11) dX11_run_11 rfl ?_
    refine j_if_eq (pc := 12) (tgt := 26) dX11_run_12 (by decide) (fun c4 => ?_) (fun c4 => ?_)
    · rw [if_pos c4] at H
      refine j_iconst (pc := 26) (v := -1) dX11_run_26 (by decide) ?_
      exact j_ireturn (pc := 27) dX11_run_27 rfl (ri_1 H) (ri_2 H)
    · rw [if_neg c4] at H
      refine j_iload_n (pc := 15) dX11_run_15 rfl ?_
      refine j_bipush (pc := 16) (v := -99) dX11_run_16 (by decide) ?_
      refine j_bipush (pc := 18) (v := 99) dX11_run_18 (by decide) ?_
      obtain ⟨r6, h5, eh5, H⟩ := bd_x H
      refine j_callS (pc := 20) dX11_run_20 mlX11_81 wyX11_between (tX11_between eh5) (by decide) rfl (by simp [Value.category]) rfl ?_
      refine j_if_ne (pc := 23) (tgt := 28) dX11_run_23 (by decide) (fun c7 => ?_) (fun c7 => ?_)
      · rw [if_neg c7] at H
        refine j_aload_n (pc := 28) dX11_run_28 rfl ?_
        refine j_getR (pc := 29) (b := 6) dX11_run_29 flX11_49 rfl ?_
        refine j_iload_n (pc := 32) dX11_run_32 rfl ?_
        refine j_iload_n (pc := 33) dX11_run_33 rfl ?_
        obtain ⟨r9, h8, eh8, H⟩ := bd_x H
        refine j_callV (pc := 34) dX11_run_34 mlX11_299 wyX5_can (tX5_can eh8) (by decide) rfl rfl rfl rfl (by simp [Value.category]) rfl ?_
        refine j_if_ne (pc := 37) (tgt := 43) dX11_run_37 (by decide) (fun c10 => ?_) (fun c10 => ?_)
        · rw [if_neg c10] at H
          refine j_aload_n (pc := 43) dX11_run_43 rfl ?_
          refine j_getR (pc := 44) (b := 6) dX11_run_44 flX11_49 rfl ?_
          refine j_iload_n (pc := 47) dX11_run_47 rfl ?_
          refine j_iload_n (pc := 48) dX11_run_48 rfl ?_
          obtain ⟨h11, eh11, H⟩ := bv_x H
          refine j_callV (pc := 49) dX11_run_49 mlX11_302 wyX5_move (tX5_move eh11) (by decide) rfl rfl rfl rfl (by simp [Value.category]) rfl ?_
          refine j_iload_n (pc := 52) dX11_run_52 rfl ?_
          refine j_mabs (pc := 53) dX11_run_53 wmX11_204 (by simp [Value.category]) ?_
          refine j_aload_n (pc := 56) dX11_run_56 rfl ?_
          refine j_getR (pc := 57) (b := 6) dX11_run_57 flX11_49 rfl ?_
          refine j_getR (pc := 60) (b := 42) dX11_run_60 flX11_305 rfl ?_
          refine j_iload_n (pc := 63) dX11_run_63 rfl ?_
          obtain ⟨b12, H⟩ := ck_x H
          refine j_iaload (pc := 64) dX11_run_64 rfl b12 rfl ?_
          refine j_imul (pc := 65) dX11_run_65 ?_
          exact j_ireturn (pc := 66) dX11_run_66 rfl (ri_1 H) (ri_2 H)
        · rw [if_pos c10] at H
          refine j_bipush (pc := 40) (v := -2) dX11_run_40 (by decide) ?_
          exact j_ireturn (pc := 42) dX11_run_42 rfl (ri_1 H) (ri_2 H)
      · rw [if_pos c7] at H
        refine j_iconst (pc := 26) (v := -1) dX11_run_26 (by decide) ?_
        exact j_ireturn (pc := 27) dX11_run_27 rfl (ri_1 H) (ri_2 H)

noncomputable def fX11_best (p1 : Int32) (p2 : Int32) (h : HS) : Option (Int32 × HS) := bd (fX5_there p1 h) (fun r2 h1 => if r2 = 0 then (some ((-1 : Int32), h1)) else (bd (fX11_isDepth p2 h1) (fun r5 h4 => if r5 = 0 then (some ((-1 : Int32), h4)) else (bv (fX5_findBest p1 p2 h4) (fun h7 => bv (fX6_empty h7) (fun h8 => bv (fX6_add ((gI h8 6 8)) h8) (fun h9 => bv (fX6_add ((gI h9 6 9)) h9) (fun h10 => bv (fX6_add ((gI h10 6 10)) h10) (fun h11 => some ((0 : Int32), h11))))))))))
set_option maxRecDepth 100000 in
theorem tX11_best {p1 : Int32} {p2 : Int32} {r : Int32} {h h0 : HS} (H : fX11_best p1 p2 h = some (r, h0)) : Cn skC yX11_best cX11_best 3 (some .int) 5 [.ref 0, .int p1, .int p2] h (some (.int r)) h0 := by
  refine Cn_of (L := [some (.ref 0), some (.int p1), some (.int p2)]) (by decide +kernel) (by simp [lg_sl, Value.category]) (fun ad => by simp [lg_sl, tv, Value.category]) (⟨rfl, ⟨rfl, ⟨rfl, trivial⟩⟩⟩) ?_
  unfold fX11_best at H
  refine j_aload_n (pc := 0) dX11_best_0 rfl ?_
  refine j_getR (pc := 1) (b := 6) dX11_best_1 flX11_49 rfl ?_
  refine j_iload_n (pc := 4) dX11_best_4 rfl ?_
  obtain ⟨r2, h1, eh1, H⟩ := bd_x H
  refine j_callV (pc := 5) dX11_best_5 mlX11_298 wyX5_there (tX5_there eh1) (by decide) rfl rfl rfl rfl (by simp [Value.category]) rfl ?_
  refine j_if_eq (pc := 8) (tgt := 18) dX11_best_8 (by decide) (fun c3 => ?_) (fun c3 => ?_)
  · rw [if_pos c3] at H
    refine j_iconst (pc := 18) (v := -1) dX11_best_18 (by decide) ?_
    exact j_ireturn (pc := 19) dX11_best_19 rfl (ri_1 H) (ri_2 H)
  · rw [if_neg c3] at H
    refine j_iload_n (pc := 11) dX11_best_11 rfl ?_
    obtain ⟨r5, h4, eh4, H⟩ := bd_x H
    refine j_callS (pc := 12) dX11_best_12 mlX11_142 wyX11_isDepth (tX11_isDepth eh4) (by decide) rfl (by simp [Value.category]) rfl ?_
    refine j_if_ne (pc := 15) (tgt := 20) dX11_best_15 (by decide) (fun c6 => ?_) (fun c6 => ?_)
    · rw [if_neg c6] at H
      refine j_aload_n (pc := 20) dX11_best_20 rfl ?_
      refine j_getR (pc := 21) (b := 6) dX11_best_21 flX11_49 rfl ?_
      refine j_iload_n (pc := 24) dX11_best_24 rfl ?_
      refine j_iload_n (pc := 25) dX11_best_25 rfl ?_
      obtain ⟨h7, eh7, H⟩ := bv_x H
      refine j_callV (pc := 26) dX11_best_26 mlX11_308 wyX5_findBest (tX5_findBest eh7) (by decide) rfl rfl rfl rfl (by simp [Value.category]) rfl ?_
      refine j_aload_n (pc := 29) dX11_best_29 rfl ?_
      refine j_getR (pc := 30) (b := 4) dX11_best_30 flX11_29 rfl ?_
      obtain ⟨h8, eh8, H⟩ := bv_x H
      refine j_callV (pc := 33) dX11_best_33 mlX11_207 wyX6_empty (tX6_empty eh8) (by decide) rfl rfl rfl rfl (by simp [Value.category]) rfl ?_
      refine j_aload_n (pc := 36) dX11_best_36 rfl ?_
      refine j_getR (pc := 37) (b := 4) dX11_best_37 flX11_29 rfl ?_
      refine j_aload_n (pc := 40) dX11_best_40 rfl ?_
      refine j_getR (pc := 41) (b := 6) dX11_best_41 flX11_49 rfl ?_
      refine j_getI (pc := 44) dX11_best_44 flX11_311 rfl ?_
      obtain ⟨h9, eh9, H⟩ := bv_x H
      refine j_callV (pc := 47) dX11_best_47 mlX11_210 wyX6_add (tX6_add eh9) (by decide) rfl rfl rfl rfl (by simp [Value.category]) rfl ?_
      refine j_aload_n (pc := 50) dX11_best_50 rfl ?_
      refine j_getR (pc := 51) (b := 4) dX11_best_51 flX11_29 rfl ?_
      refine j_aload_n (pc := 54) dX11_best_54 rfl ?_
      refine j_getR (pc := 55) (b := 6) dX11_best_55 flX11_49 rfl ?_
      refine j_getI (pc := 58) dX11_best_58 flX11_314 rfl ?_
      obtain ⟨h10, eh10, H⟩ := bv_x H
      refine j_callV (pc := 61) dX11_best_61 mlX11_210 wyX6_add (tX6_add eh10) (by decide) rfl rfl rfl rfl (by simp [Value.category]) rfl ?_
      refine j_aload_n (pc := 64) dX11_best_64 rfl ?_
      refine j_getR (pc := 65) (b := 4) dX11_best_65 flX11_29 rfl ?_
      refine j_aload_n (pc := 68) dX11_best_68 rfl ?_
      refine j_getR (pc := 69) (b := 6) dX11_best_69 flX11_49 rfl ?_
      refine j_getI (pc := 72) dX11_best_72 flX11_317 rfl ?_
      obtain ⟨h11, eh11, H⟩ := bv_x H
      refine j_callV (pc := 75) dX11_best_75 mlX11_210 wyX6_add (tX6_add eh11) (by decide) rfl rfl rfl rfl (by simp [Value.category]) rfl ?_
      refine j_iconst (pc := 78) (v := 0) dX11_best_78 (by decide) ?_
      exact j_ireturn (pc := 79) dX11_best_79 rfl (ri_1 H) (ri_2 H)
    · rw [if_pos c6] at H
      refine j_iconst (pc := 18) (v := -1) dX11_best_18 (by decide) ?_
      exact j_ireturn (pc := 19) dX11_best_19 rfl (ri_1 H) (ri_2 H)

noncomputable def fX11_trim_60 : Nat → Int32 → HS → Option (Int32 × HS)
  | 0, _, _ => none
  | n + 1, v3, h => if (gI h 6 13) ≤ v3 then (some ((gI h 6 8), h)) else (ck (inb v3 4) (bv (fX6_add ((gI h 44 v3.toNatClampNeg)) h) (fun h13 => nm (v3 + (1 : Int32)) (fun v3_14 => fX11_trim_60 n v3_14 h13))))
set_option maxRecDepth 100000 in
theorem jX11_trim_60 {r : Int32} {h0 : HS} : ∀ (n : Nat) (v3 : Int32) (h : HS), fX11_trim_60 n v3 h = some (r, h0) → Jx skC RX11 cX11_trim 4 (some .int) 6 (some (.int r)) h0 60 [some (.ref 0), none, none, some (.int v3)] [] h := by
  intro n
  induction n with
  | zero => intro v3  h H; cases H
  | succ n ih =>
    intro v3  h H
    rw [fX11_trim_60] at H
    refine j_iload_n (pc := 60) dX11_trim_60 rfl ?_
    refine j_aload_n (pc := 61) dX11_trim_61 rfl ?_
    refine j_getR (pc := 62) (b := 6) dX11_trim_62 flX11_49 rfl ?_
    refine j_getI (pc := 65) dX11_trim_65 flX11_324 rfl ?_
    refine j_icmp_ge (pc := 68) (tgt := 93) dX11_trim_68 (by decide) (fun c11 => ?_) (fun c11 => ?_)
    · rw [if_pos c11] at H
      refine j_aload_n (pc := 93) dX11_trim_93 rfl ?_
      refine j_getR (pc := 94) (b := 6) dX11_trim_94 flX11_49 rfl ?_
      refine j_getI (pc := 97) dX11_trim_97 flX11_311 rfl ?_
      exact j_ireturn (pc := 100) dX11_trim_100 rfl (ri_1 H) (ri_2 H)
    · rw [if_neg c11] at H
      refine j_aload_n (pc := 71) dX11_trim_71 rfl ?_
      refine j_getR (pc := 72) (b := 4) dX11_trim_72 flX11_29 rfl ?_
      refine j_aload_n (pc := 75) dX11_trim_75 rfl ?_
      refine j_getR (pc := 76) (b := 6) dX11_trim_76 flX11_49 rfl ?_
      refine j_getR (pc := 79) (b := 44) dX11_trim_79 flX11_327 rfl ?_
      refine j_iload_n (pc := 82) dX11_trim_82 rfl ?_
      obtain ⟨b12, H⟩ := ck_x H
      refine j_iaload (pc := 83) dX11_trim_83 rfl b12 rfl ?_
      obtain ⟨h13, eh13, H⟩ := bv_x H
      refine j_callV (pc := 84) dX11_trim_84 mlX11_210 wyX6_add (tX6_add eh13) (by decide) rfl rfl rfl rfl (by simp [Value.category]) rfl ?_
      obtain ⟨v3_14, ev3_14, H⟩ := nm_x H
      refine j_iinc (pc := 87) (L' := [some (.ref 0), none, none, some (.int v3_14)]) (w := 1) dX11_trim_87 rfl (by decide) (by decide) v3_14 ev3_14 rfl ?_
      refine j_goto (pc := 90) (tgt := 60) dX11_trim_90 (by decide) ?_
      refine Jx.sub (L' := [some (.ref 0), none, none, some (.int v3_14)]) (⟨rfl, ⟨rfl, trivial⟩⟩) ?_
      exact ih v3_14 h13 H
noncomputable def fX11_trim (p1 : Int32) (p2 : Int32) (h : HS) : Option (Int32 × HS) := bd (fX11_isDepth p1 h) (fun r2 h1 => if r2 = 0 then (some ((-1 : Int32), h1)) else (bd (fX0_isBalanced p1 h1) (fun r5 h4 => if r5 = 0 then (bv (fX5_findTrim p1 p2 h4) (fun h7 => if (gI h7 6 13) = 0 then (some ((-2 : Int32), h7)) else (bv (fX6_empty h7) (fun h9 => fX11_trim_60 FU (0 : Int32) h9)))) else (bv (fX6_empty h4) (fun h10 => some ((0 : Int32), h10))))))
set_option maxRecDepth 100000 in
theorem tX11_trim {p1 : Int32} {p2 : Int32} {r : Int32} {h h0 : HS} (H : fX11_trim p1 p2 h = some (r, h0)) : Cn skC yX11_trim cX11_trim 4 (some .int) 6 [.ref 0, .int p1, .int p2] h (some (.int r)) h0 := by
  refine Cn_of (L := [some (.ref 0), some (.int p1), some (.int p2), none]) (by decide +kernel) (by simp [lg_sl, Value.category]) (fun ad => by simp [lg_sl, tv, Value.category]) (⟨rfl, ⟨rfl, ⟨rfl, trivial⟩⟩⟩) ?_
  unfold fX11_trim at H
  refine j_iload_n (pc := 0) dX11_trim_0 rfl ?_
  obtain ⟨r2, h1, eh1, H⟩ := bd_x H
  refine j_callS (pc := 1) dX11_trim_1 mlX11_142 wyX11_isDepth (tX11_isDepth eh1) (by decide) rfl (by simp [Value.category]) rfl ?_
  refine j_if_ne (pc := 4) (tgt := 9) dX11_trim_4 (by decide) (fun c3 => ?_) (fun c3 => ?_)
  · rw [if_neg c3] at H
    refine j_aload_n (pc := 9) dX11_trim_9 rfl ?_
    refine j_getR (pc := 10) (b := 1) dX11_trim_10 flX11_10 rfl ?_
    refine j_iload_n (pc := 13) dX11_trim_13 rfl ?_
    obtain ⟨r5, h4, eh4, H⟩ := bd_x H
    refine j_callV (pc := 14) dX11_trim_14 mlX11_187 wyX0_isBalanced (tX0_isBalanced eh4) (by decide) rfl rfl rfl rfl (by simp [Value.category]) rfl ?_
    refine j_if_eq (pc := 17) (tgt := 29) dX11_trim_17 (by decide) (fun c6 => ?_) (fun c6 => ?_)
    · rw [if_pos c6] at H
      refine j_aload_n (pc := 29) dX11_trim_29 rfl ?_
      refine j_getR (pc := 30) (b := 6) dX11_trim_30 flX11_49 rfl ?_
      refine j_iload_n (pc := 33) dX11_trim_33 rfl ?_
      refine j_iload_n (pc := 34) dX11_trim_34 rfl ?_
      obtain ⟨h7, eh7, H⟩ := bv_x H
      refine j_callV (pc := 35) dX11_trim_35 mlX11_320 wyX5_findTrim (tX5_findTrim eh7) (by decide) rfl rfl rfl rfl (by simp [Value.category]) rfl ?_
      refine j_aload_n (pc := 38) dX11_trim_38 rfl ?_
      refine j_getR (pc := 39) (b := 6) dX11_trim_39 flX11_49 rfl ?_
      refine j_getI (pc := 42) dX11_trim_42 flX11_324 rfl ?_
      refine j_if_ne (pc := 45) (tgt := 51) dX11_trim_45 (by decide) (fun c8 => ?_) (fun c8 => ?_)
      · rw [if_neg c8] at H
        refine j_aload_n (pc := 51) dX11_trim_51 rfl ?_
        refine j_getR (pc := 52) (b := 4) dX11_trim_52 flX11_29 rfl ?_
        obtain ⟨h9, eh9, H⟩ := bv_x H
        refine j_callV (pc := 55) dX11_trim_55 mlX11_207 wyX6_empty (tX6_empty eh9) (by decide) rfl rfl rfl rfl (by simp [Value.category]) rfl ?_
        refine j_iconst (pc := 58) (v := 0) dX11_trim_58 (by decide) ?_
        refine j_istore_n (pc := 59) (L' := [some (.ref 0), some (.int p1), some (.int p2), some (.int (0 : Int32))]) dX11_trim_59 (by decide) rfl ?_
        refine Jx.sub (L' := [some (.ref 0), none, none, some (.int (0 : Int32))]) (⟨rfl, ⟨rfl, trivial⟩⟩) ?_
        exact jX11_trim_60 FU (0 : Int32) h9 H
      · rw [if_pos c8] at H
        refine j_bipush (pc := 48) (v := -2) dX11_trim_48 (by decide) ?_
        exact j_ireturn (pc := 50) dX11_trim_50 rfl (ri_1 H) (ri_2 H)
    · rw [if_neg c6] at H
      refine j_aload_n (pc := 20) dX11_trim_20 rfl ?_
      refine j_getR (pc := 21) (b := 4) dX11_trim_21 flX11_29 rfl ?_
      obtain ⟨h10, eh10, H⟩ := bv_x H
      refine j_callV (pc := 24) dX11_trim_24 mlX11_207 wyX6_empty (tX6_empty eh10) (by decide) rfl rfl rfl rfl (by simp [Value.category]) rfl ?_
      refine j_iconst (pc := 27) (v := 0) dX11_trim_27 (by decide) ?_
      exact j_ireturn (pc := 28) dX11_trim_28 rfl (ri_1 H) (ri_2 H)
  · rw [if_pos c3] at H
    refine j_iconst (pc := 7) (v := -1) dX11_trim_7 (by decide) ?_
    exact j_ireturn (pc := 8) dX11_trim_8 rfl (ri_1 H) (ri_2 H)

noncomputable def fX11_reach_65 (v2 : Int32) (h : HS) : Option (Int32 × HS) := if v2 = 0 then (some ((0 : Int32), h)) else (some ((1 : Int32), h))
set_option maxRecDepth 100000 in
theorem jX11_reach_65 {r : Int32} {h0 : HS} (v2 : Int32) (h : HS) (H : fX11_reach_65 v2 h = some (r, h0)) : Jx skC RX11 cX11_reach 3 (some .int) 4 (some (.int r)) h0 65 [none, none, some (.int v2)] [] h := by
  unfold fX11_reach_65 at H
  refine j_iload_n (pc := 65) dX11_reach_65 rfl ?_
  refine j_if_eq (pc := 66) (tgt := 73) dX11_reach_66 (by decide) (fun c10 => ?_) (fun c10 => ?_)
  · rw [if_pos c10] at H
    refine j_iconst (pc := 73) (v := 0) dX11_reach_73 (by decide) ?_
    exact j_ireturn (pc := 74) dX11_reach_74 rfl (ri_1 H) (ri_2 H)
  · rw [if_neg c10] at H
    refine j_iconst (pc := 69) (v := 1) dX11_reach_69 (by decide) ?_
    refine j_goto (pc := 70) (tgt := 74) dX11_reach_70 (by decide) ?_
    exact j_ireturn (pc := 74) dX11_reach_74 rfl (ri_1 H) (ri_2 H)
noncomputable def fX11_reach (p1 : Int32) (h : HS) : Option (Int32 × HS) := bd (fX11_isDepth p1 h) (fun r2 h1 => if r2 = 0 then (some ((-1 : Int32), h1)) else (bd (fX0_findSums p1 h1) (fun r5 h4 => bv (fX6_empty h4) (fun h6 => if r5 = 0 then (fX11_reach_65 r5 h6) else (bv (fX6_add (((gL h6 11 0).toInt32)) h6) (fun h8 => bv (fX6_add (((gL h8 11 1).toInt32)) h8) (fun h9 => fX11_reach_65 r5 h9)))))))
set_option maxRecDepth 100000 in
theorem tX11_reach {p1 : Int32} {r : Int32} {h h0 : HS} (H : fX11_reach p1 h = some (r, h0)) : Cn skC yX11_reach cX11_reach 3 (some .int) 4 [.ref 0, .int p1] h (some (.int r)) h0 := by
  refine Cn_of (L := [some (.ref 0), some (.int p1), none]) (by decide +kernel) (by simp [lg_sl, Value.category]) (fun ad => by simp [lg_sl, tv, Value.category]) (⟨rfl, ⟨rfl, trivial⟩⟩) ?_
  unfold fX11_reach at H
  refine j_iload_n (pc := 0) dX11_reach_0 rfl ?_
  obtain ⟨r2, h1, eh1, H⟩ := bd_x H
  refine j_callS (pc := 1) dX11_reach_1 mlX11_142 wyX11_isDepth (tX11_isDepth eh1) (by decide) rfl (by simp [Value.category]) rfl ?_
  refine j_if_ne (pc := 4) (tgt := 9) dX11_reach_4 (by decide) (fun c3 => ?_) (fun c3 => ?_)
  · rw [if_neg c3] at H
    refine j_aload_n (pc := 9) dX11_reach_9 rfl ?_
    refine j_getR (pc := 10) (b := 1) dX11_reach_10 flX11_10 rfl ?_
    refine j_iload_n (pc := 13) dX11_reach_13 rfl ?_
    obtain ⟨r5, h4, eh4, H⟩ := bd_x H
    refine j_callV (pc := 14) dX11_reach_14 mlX11_330 wyX0_findSums (tX0_findSums eh4) (by decide) rfl rfl rfl rfl (by simp [Value.category]) rfl ?_
    refine j_istore_n (pc := 17) (L' := [some (.ref 0), some (.int p1), some (.int r5)]) dX11_reach_17 (by decide) rfl ?_
    refine j_aload_n (pc := 18) dX11_reach_18 rfl ?_
    refine j_getR (pc := 19) (b := 4) dX11_reach_19 flX11_29 rfl ?_
    obtain ⟨h6, eh6, H⟩ := bv_x H
    refine j_callV (pc := 22) dX11_reach_22 mlX11_207 wyX6_empty (tX6_empty eh6) (by decide) rfl rfl rfl rfl (by simp [Value.category]) rfl ?_
    refine j_iload_n (pc := 25) dX11_reach_25 rfl ?_
    refine j_if_eq (pc := 26) (tgt := 65) dX11_reach_26 (by decide) (fun c7 => ?_) (fun c7 => ?_)
    · rw [if_pos c7] at H
      refine Jx.sub (L' := [none, none, some (.int r5)]) (⟨rfl, trivial⟩) ?_
      exact jX11_reach_65 r5 h6 H
    · rw [if_neg c7] at H
      refine j_aload_n (pc := 29) dX11_reach_29 rfl ?_
      refine j_getR (pc := 30) (b := 4) dX11_reach_30 flX11_29 rfl ?_
      refine j_aload_n (pc := 33) dX11_reach_33 rfl ?_
      refine j_getR (pc := 34) (b := 1) dX11_reach_34 flX11_10 rfl ?_
      refine j_getR (pc := 37) (b := 11) dX11_reach_37 flX11_333 rfl ?_
      refine j_getL (pc := 40) dX11_reach_40 flX11_281 rfl ?_
      refine j_l2i (pc := 43) dX11_reach_43 ?_
      obtain ⟨h8, eh8, H⟩ := bv_x H
      refine j_callV (pc := 44) dX11_reach_44 mlX11_210 wyX6_add (tX6_add eh8) (by decide) rfl rfl rfl rfl (by simp [Value.category]) rfl ?_
      refine j_aload_n (pc := 47) dX11_reach_47 rfl ?_
      refine j_getR (pc := 48) (b := 4) dX11_reach_48 flX11_29 rfl ?_
      refine j_aload_n (pc := 51) dX11_reach_51 rfl ?_
      refine j_getR (pc := 52) (b := 1) dX11_reach_52 flX11_10 rfl ?_
      refine j_getR (pc := 55) (b := 11) dX11_reach_55 flX11_333 rfl ?_
      refine j_getL (pc := 58) dX11_reach_58 flX11_285 rfl ?_
      refine j_l2i (pc := 61) dX11_reach_61 ?_
      obtain ⟨h9, eh9, H⟩ := bv_x H
      refine j_callV (pc := 62) dX11_reach_62 mlX11_210 wyX6_add (tX6_add eh9) (by decide) rfl rfl rfl rfl (by simp [Value.category]) rfl ?_
      refine Jx.sub (L' := [none, none, some (.int r5)]) (⟨rfl, trivial⟩) ?_
      exact jX11_reach_65 r5 h9 H
  · rw [if_pos c3] at H
    refine j_iconst (pc := 7) (v := -1) dX11_reach_7 (by decide) ?_
    exact j_ireturn (pc := 8) dX11_reach_8 rfl (ri_1 H) (ri_2 H)

noncomputable def fX11_shot_185 (v1 : Int32) (v2 : Int32) (v5 : Int32) (v8 : Int32) (v9 : Int32) (v10 : Int32) (h : HS) : Option (Int32 × HS) := ck (inb v1 15) (ck (inb v1 15) (nm (pI h 30 v1.toNatClampNeg ((gI h 30 v1.toNatClampNeg) - v2)) (fun h31 => ck (inb v5 15) (ck (inb v5 15) (nm (pI h31 30 v5.toNatClampNeg ((gI h31 30 v5.toNatClampNeg) + v2)) (fun h34 => bv (fX6_empty h34) (fun h36 => bv (fX6_add v9 h36) (fun h37 => bv (fX6_add v10 h37) (fun h38 => some (v8, h38))))))))))
set_option maxRecDepth 100000 in
theorem jX11_shot_185 {r : Int32} {h0 : HS} (v1 : Int32) (v2 : Int32) (v5 : Int32) (v8 : Int32) (v9 : Int32) (v10 : Int32) (h : HS) (H : fX11_shot_185 v1 v2 v5 v8 v9 v10 h = some (r, h0)) : Jx skC RX11 cX11_shot 11 (some .int) 2 (some (.int r)) h0 185 [some (.ref 0), some (.int v1), some (.int v2), none, none, some (.int v5), none, none, some (.int v8), some (.int v9), some (.int v10)] [] h := by
  unfold fX11_shot_185 at H
  refine j_aload_n (pc := 185) dX11_shot_185 rfl ?_
  refine j_getR (pc := 186) (b := 2) dX11_shot_186 flX11_20 rfl ?_
  refine j_getR (pc := 189) (b := 30) dX11_shot_189 flX11_98 rfl ?_
  refine j_iload_n (pc := 192) dX11_shot_192 rfl ?_
  refine j_dup2 (pc := 193) dX11_shot_193 rfl rfl ?_
  obtain ⟨b30, H⟩ := ck_x H
  refine j_iaload (pc := 194) dX11_shot_194 rfl b30 rfl ?_
  refine j_iload_n (pc := 195) dX11_shot_195 rfl ?_
  refine j_isub (pc := 196) dX11_shot_196 ?_
  obtain ⟨b32, H⟩ := ck_x H
  obtain ⟨h31, eh31, H⟩ := nm_x H
  refine j_iastore (pc := 197) dX11_shot_197 rfl b32 rfl h31 eh31 ?_
  refine j_aload_n (pc := 198) dX11_shot_198 rfl ?_
  refine j_getR (pc := 199) (b := 2) dX11_shot_199 flX11_20 rfl ?_
  refine j_getR (pc := 202) (b := 30) dX11_shot_202 flX11_98 rfl ?_
  refine j_iload (pc := 205) dX11_shot_205 rfl ?_
  refine j_dup2 (pc := 207) dX11_shot_207 rfl rfl ?_
  obtain ⟨b33, H⟩ := ck_x H
  refine j_iaload (pc := 208) dX11_shot_208 rfl b33 rfl ?_
  refine j_iload_n (pc := 209) dX11_shot_209 rfl ?_
  refine j_iadd (pc := 210) dX11_shot_210 ?_
  obtain ⟨b35, H⟩ := ck_x H
  obtain ⟨h34, eh34, H⟩ := nm_x H
  refine j_iastore (pc := 211) dX11_shot_211 rfl b35 rfl h34 eh34 ?_
  refine j_aload_n (pc := 212) dX11_shot_212 rfl ?_
  refine j_getR (pc := 213) (b := 4) dX11_shot_213 flX11_29 rfl ?_
  obtain ⟨h36, eh36, H⟩ := bv_x H
  refine j_callV (pc := 216) dX11_shot_216 mlX11_207 wyX6_empty (tX6_empty eh36) (by decide) rfl rfl rfl rfl (by simp [Value.category]) rfl ?_
  refine j_aload_n (pc := 219) dX11_shot_219 rfl ?_
  refine j_getR (pc := 220) (b := 4) dX11_shot_220 flX11_29 rfl ?_
  refine j_iload (pc := 223) dX11_shot_223 rfl ?_
  obtain ⟨h37, eh37, H⟩ := bv_x H
  refine j_callV (pc := 225) dX11_shot_225 mlX11_210 wyX6_add (tX6_add eh37) (by decide) rfl rfl rfl rfl (by simp [Value.category]) rfl ?_
  refine j_aload_n (pc := 228) dX11_shot_228 rfl ?_
  refine j_getR (pc := 229) (b := 4) dX11_shot_229 flX11_29 rfl ?_
  refine j_iload (pc := 232) dX11_shot_232 rfl ?_
  obtain ⟨h38, eh38, H⟩ := bv_x H
  refine j_callV (pc := 234) dX11_shot_234 mlX11_210 wyX6_add (tX6_add eh38) (by decide) rfl rfl rfl rfl (by simp [Value.category]) rfl ?_
  refine j_iload (pc := 237) dX11_shot_237 rfl ?_
  exact j_ireturn (pc := 239) dX11_shot_239 rfl (ri_1 H) (ri_2 H)
noncomputable def fX11_shot_105 : Nat → Int32 → Int32 → Int32 → Int32 → Int32 → Int32 → Int32 → Int32 → Int32 → HS → Option (Int32 × HS)
  | 0, _, _, _, _, _, _, _, _, _, _ => none
  | n + 1, v1, v2, v3, v4, v5, v7, v8, v9, v10, h => if v2 ≤ v7 then (fX11_shot_185 v1 v2 v5 v8 v9 v10 h) else (if (v3 + v2) < v8 then (fX11_shot_185 v1 v2 v5 v8 v9 v10 h) else (nm ((v9 + (v2 - v7))) (fun v9_23 => ck (inb v5 15) (ck (inb v1 15) (nm ((v10 + (((gI h 27 v5.toNatClampNeg) * v7) - ((gI h 27 v1.toNatClampNeg) * v2)))) (fun v10_26 => nm (v8 + (1 : Int32)) (fun v8_27 => if v8_27 ≤ v3 then (fX11_shot_105 n v1 v2 v3 v4 v5 (0 : Int32) v8_27 v9_23 v10_26 h) else (nm ((imin v2 (v7 + v4))) (fun v7_29 => fX11_shot_105 n v1 v2 v3 v4 v5 v7_29 v8_27 v9_23 v10_26 h)))))))))
set_option maxRecDepth 100000 in
theorem jX11_shot_105 {r : Int32} {h0 : HS} : ∀ (n : Nat) (v1 : Int32) (v2 : Int32) (v3 : Int32) (v4 : Int32) (v5 : Int32) (v7 : Int32) (v8 : Int32) (v9 : Int32) (v10 : Int32) (h : HS), fX11_shot_105 n v1 v2 v3 v4 v5 v7 v8 v9 v10 h = some (r, h0) → Jx skC RX11 cX11_shot 11 (some .int) 2 (some (.int r)) h0 105 [some (.ref 0), some (.int v1), some (.int v2), some (.int v3), some (.int v4), some (.int v5), none, some (.int v7), some (.int v8), some (.int v9), some (.int v10)] [] h := by
  intro n
  induction n with
  | zero => intro v1 v2 v3 v4 v5 v7 v8 v9 v10  h H; cases H
  | succ n ih =>
    intro v1 v2 v3 v4 v5 v7 v8 v9 v10  h H
    rw [fX11_shot_105] at H
    refine j_iload (pc := 105) dX11_shot_105 rfl ?_
    refine j_iload_n (pc := 107) dX11_shot_107 rfl ?_
    refine j_icmp_ge (pc := 108) (tgt := 185) dX11_shot_108 (by decide) (fun c21 => ?_) (fun c21 => ?_)
    · rw [if_pos c21] at H
      refine Jx.sub (L' := [some (.ref 0), some (.int v1), some (.int v2), none, none, some (.int v5), none, none, some (.int v8), some (.int v9), some (.int v10)]) (⟨rfl, ⟨rfl, ⟨rfl, ⟨rfl, ⟨rfl, ⟨rfl, ⟨rfl, trivial⟩⟩⟩⟩⟩⟩⟩) ?_
      exact jX11_shot_185 v1 v2 v5 v8 v9 v10 h H
    · rw [if_neg c21] at H
      refine j_iload (pc := 111) dX11_shot_111 rfl ?_
      refine j_iload_n (pc := 113) dX11_shot_113 rfl ?_
      refine j_iload_n (pc := 114) dX11_shot_114 rfl ?_
      refine j_iadd (pc := 115) dX11_shot_115 ?_
      refine j_icmp_gt (pc := 116) (tgt := 185) dX11_shot_116 (by decide) (fun c22 => ?_) (fun c22 => ?_)
      · rw [if_pos c22] at H
        refine Jx.sub (L' := [some (.ref 0), some (.int v1), some (.int v2), none, none, some (.int v5), none, none, some (.int v8), some (.int v9), some (.int v10)]) (⟨rfl, ⟨rfl, ⟨rfl, ⟨rfl, ⟨rfl, ⟨rfl, ⟨rfl, trivial⟩⟩⟩⟩⟩⟩⟩) ?_
        exact jX11_shot_185 v1 v2 v5 v8 v9 v10 h H
      · rw [if_neg c22] at H
        refine j_iload (pc := 119) dX11_shot_119 rfl ?_
        refine j_iload_n (pc := 121) dX11_shot_121 rfl ?_
        refine j_iload (pc := 122) dX11_shot_122 rfl ?_
        refine j_isub (pc := 124) dX11_shot_124 ?_
        refine j_iadd (pc := 125) dX11_shot_125 ?_
        obtain ⟨v9_23, ev9_23, H⟩ := nm_x H
        refine j_topi ev9_23 ?_
        refine j_istore (pc := 126) (L' := [some (.ref 0), some (.int v1), some (.int v2), some (.int v3), some (.int v4), some (.int v5), none, some (.int v7), some (.int v8), some (.int v9_23), some (.int v10)]) dX11_shot_126 (by decide) rfl ?_
        refine j_iload (pc := 128) dX11_shot_128 rfl ?_
        refine j_aload_n (pc := 130) dX11_shot_130 rfl ?_
        refine j_getR (pc := 131) (b := 2) dX11_shot_131 flX11_20 rfl ?_
        refine j_getR (pc := 134) (b := 27) dX11_shot_134 flX11_164 rfl ?_
        refine j_iload (pc := 137) dX11_shot_137 rfl ?_
        obtain ⟨b24, H⟩ := ck_x H
        refine j_iaload (pc := 139) dX11_shot_139 rfl b24 rfl ?_
        refine j_iload (pc := 140) dX11_shot_140 rfl ?_
        refine j_imul (pc := 142) dX11_shot_142 ?_
        refine j_aload_n (pc := 143) dX11_shot_143 rfl ?_
        refine j_getR (pc := 144) (b := 2) dX11_shot_144 flX11_20 rfl ?_
        refine j_getR (pc := 147) (b := 27) dX11_shot_147 flX11_164 rfl ?_
        refine j_iload_n (pc := 150) dX11_shot_150 rfl ?_
        obtain ⟨b25, H⟩ := ck_x H
        refine j_iaload (pc := 151) dX11_shot_151 rfl b25 rfl ?_
        refine j_iload_n (pc := 152) dX11_shot_152 rfl ?_
        refine j_imul (pc := 153) dX11_shot_153 ?_
        refine j_isub (pc := 154) dX11_shot_154 ?_
        refine j_iadd (pc := 155) dX11_shot_155 ?_
        obtain ⟨v10_26, ev10_26, H⟩ := nm_x H
        refine j_topi ev10_26 ?_
        refine j_istore (pc := 156) (L' := [some (.ref 0), some (.int v1), some (.int v2), some (.int v3), some (.int v4), some (.int v5), none, some (.int v7), some (.int v8), some (.int v9_23), some (.int v10_26)]) dX11_shot_156 (by decide) rfl ?_
        obtain ⟨v8_27, ev8_27, H⟩ := nm_x H
        refine j_iinc (pc := 158) (L' := [some (.ref 0), some (.int v1), some (.int v2), some (.int v3), some (.int v4), some (.int v5), none, some (.int v7), some (.int v8_27), some (.int v9_23), some (.int v10_26)]) (w := 1) dX11_shot_158 rfl (by decide) (by decide) v8_27 ev8_27 rfl ?_
        refine j_iload (pc := 161) dX11_shot_161 rfl ?_
        refine j_iload_n (pc := 163) dX11_shot_163 rfl ?_
        refine j_icmp_le (pc := 164) (tgt := 179) dX11_shot_164 (by decide) (fun c28 => ?_) (fun c28 => ?_)
        · rw [if_pos c28] at H
          refine j_iconst (pc := 179) (v := 0) dX11_shot_179 (by decide) ?_
          refine j_istore (pc := 180) (L' := [some (.ref 0), some (.int v1), some (.int v2), some (.int v3), some (.int v4), some (.int v5), none, some (.int (0 : Int32)), some (.int v8_27), some (.int v9_23), some (.int v10_26)]) dX11_shot_180 (by decide) rfl ?_
          refine j_goto (pc := 182) (tgt := 105) dX11_shot_182 (by decide) ?_
          refine Jx.sub (L' := [some (.ref 0), some (.int v1), some (.int v2), some (.int v3), some (.int v4), some (.int v5), none, some (.int (0 : Int32)), some (.int v8_27), some (.int v9_23), some (.int v10_26)]) (⟨rfl, ⟨rfl, ⟨rfl, ⟨rfl, ⟨rfl, ⟨rfl, ⟨rfl, ⟨rfl, ⟨rfl, ⟨rfl, trivial⟩⟩⟩⟩⟩⟩⟩⟩⟩⟩) ?_
          exact ih v1 v2 v3 v4 v5 (0 : Int32) v8_27 v9_23 v10_26 h H
        · rw [if_neg c28] at H
          refine j_iload_n (pc := 167) dX11_shot_167 rfl ?_
          refine j_iload (pc := 168) dX11_shot_168 rfl ?_
          refine j_iload (pc := 170) dX11_shot_170 rfl ?_
          refine j_iadd (pc := 172) dX11_shot_172 ?_
          refine j_mmin (pc := 173) dX11_shot_173 wmX11_108 (by simp [Value.category]) ?_
          refine j_goto (pc := 176) (tgt := 180) dX11_shot_176 (by decide) ?_
          obtain ⟨v7_29, ev7_29, H⟩ := nm_x H
          refine j_topi ev7_29 ?_
          refine j_istore (pc := 180) (L' := [some (.ref 0), some (.int v1), some (.int v2), some (.int v3), some (.int v4), some (.int v5), none, some (.int v7_29), some (.int v8_27), some (.int v9_23), some (.int v10_26)]) dX11_shot_180 (by decide) rfl ?_
          refine j_goto (pc := 182) (tgt := 105) dX11_shot_182 (by decide) ?_
          refine Jx.sub (L' := [some (.ref 0), some (.int v1), some (.int v2), some (.int v3), some (.int v4), some (.int v5), none, some (.int v7_29), some (.int v8_27), some (.int v9_23), some (.int v10_26)]) (⟨rfl, ⟨rfl, ⟨rfl, ⟨rfl, ⟨rfl, ⟨rfl, ⟨rfl, ⟨rfl, ⟨rfl, ⟨rfl, trivial⟩⟩⟩⟩⟩⟩⟩⟩⟩⟩) ?_
          exact ih v1 v2 v3 v4 v5 v7_29 v8_27 v9_23 v10_26 h H
noncomputable def fX11_shot_51 (v1 : Int32) (v2 : Int32) (v3 : Int32) (v4 : Int32) (v5 : Int32) (s0 : Int32) (h : HS) : Option (Int32 × HS) := if s0 = 0 then (some ((-1 : Int32), h)) else (ck (inb v1 15) (bd (fX11_between v2 (1 : Int32) ((gI h 30 v1.toNatClampNeg)) h) (fun r16 h15 => if r16 = 0 then (some ((-1 : Int32), h15)) else (bd (fX4_room v5 h15) (fun r19 h18 => if v2 ≤ r19 then (fX11_shot_105 FU v1 v2 v3 v4 v5 (0 : Int32) (0 : Int32) (0 : Int32) (0 : Int32) h18) else (some ((-2 : Int32), h18)))))))
set_option maxRecDepth 100000 in
theorem jX11_shot_51 {r : Int32} {h0 : HS} (v1 : Int32) (v2 : Int32) (v3 : Int32) (v4 : Int32) (v5 : Int32) (s0 : Int32) (h : HS) (H : fX11_shot_51 v1 v2 v3 v4 v5 s0 h = some (r, h0)) : Jx skC RX11 cX11_shot 11 (some .int) 2 (some (.int r)) h0 51 [some (.ref 0), some (.int v1), some (.int v2), some (.int v3), some (.int v4), some (.int v5), none, none, none, none, none] [.int s0] h := by
  unfold fX11_shot_51 at H
  refine j_istore (pc := 51) (L' := [some (.ref 0), some (.int v1), some (.int v2), some (.int v3), some (.int v4), some (.int v5), some (.int s0), none, none, none, none]) dX11_shot_51 (by decide) rfl ?_
  refine j_iload (pc := 53) dX11_shot_53 rfl ?_
  refine j_if_eq (pc := 55) (tgt := 75) dX11_shot_55 (by decide) (fun c13 => ?_) (fun c13 => ?_)
  · rw [if_pos c13] at H
    refine j_iconst (pc := 75) (v := -1) dX11_shot_75 (by decide) ?_
    exact j_ireturn (pc := 76) dX11_shot_76 rfl (ri_1 H) (ri_2 H)
  · rw [if_neg c13] at H
    refine j_iload_n (pc := 58) dX11_shot_58 rfl ?_
    refine j_iconst (pc := 59) (v := 1) dX11_shot_59 (by decide) ?_
    refine j_aload_n (pc := 60) dX11_shot_60 rfl ?_
    refine j_getR (pc := 61) (b := 2) dX11_shot_61 flX11_20 rfl ?_
    refine j_getR (pc := 64) (b := 30) dX11_shot_64 flX11_98 rfl ?_
    refine j_iload_n (pc := 67) dX11_shot_67 rfl ?_
    obtain ⟨b14, H⟩ := ck_x H
    refine j_iaload (pc := 68) dX11_shot_68 rfl b14 rfl ?_
    obtain ⟨r16, h15, eh15, H⟩ := bd_x H
    refine j_callS (pc := 69) dX11_shot_69 mlX11_81 wyX11_between (tX11_between eh15) (by decide) rfl (by simp [Value.category]) rfl ?_
    refine j_if_ne (pc := 72) (tgt := 77) dX11_shot_72 (by decide) (fun c17 => ?_) (fun c17 => ?_)
    · rw [if_neg c17] at H
      refine j_aload_n (pc := 77) dX11_shot_77 rfl ?_
      refine j_getR (pc := 78) (b := 2) dX11_shot_78 flX11_20 rfl ?_
      refine j_iload (pc := 81) dX11_shot_81 rfl ?_
      obtain ⟨r19, h18, eh18, H⟩ := bd_x H
      refine j_callV (pc := 83) dX11_shot_83 mlX11_268 wyX4_room (tX4_room eh18) (by decide) rfl rfl rfl rfl (by simp [Value.category]) rfl ?_
      refine j_iload_n (pc := 86) dX11_shot_86 rfl ?_
      refine j_icmp_ge (pc := 87) (tgt := 93) dX11_shot_87 (by decide) (fun c20 => ?_) (fun c20 => ?_)
      · rw [if_pos c20] at H
        refine j_iconst (pc := 93) (v := 0) dX11_shot_93 (by decide) ?_
        refine j_istore (pc := 94) (L' := [some (.ref 0), some (.int v1), some (.int v2), some (.int v3), some (.int v4), some (.int v5), some (.int s0), some (.int (0 : Int32)), none, none, none]) dX11_shot_94 (by decide) rfl ?_
        refine j_iconst (pc := 96) (v := 0) dX11_shot_96 (by decide) ?_
        refine j_istore (pc := 97) (L' := [some (.ref 0), some (.int v1), some (.int v2), some (.int v3), some (.int v4), some (.int v5), some (.int s0), some (.int (0 : Int32)), some (.int (0 : Int32)), none, none]) dX11_shot_97 (by decide) rfl ?_
        refine j_iconst (pc := 99) (v := 0) dX11_shot_99 (by decide) ?_
        refine j_istore (pc := 100) (L' := [some (.ref 0), some (.int v1), some (.int v2), some (.int v3), some (.int v4), some (.int v5), some (.int s0), some (.int (0 : Int32)), some (.int (0 : Int32)), some (.int (0 : Int32)), none]) dX11_shot_100 (by decide) rfl ?_
        refine j_iconst (pc := 102) (v := 0) dX11_shot_102 (by decide) ?_
        refine j_istore (pc := 103) (L' := [some (.ref 0), some (.int v1), some (.int v2), some (.int v3), some (.int v4), some (.int v5), some (.int s0), some (.int (0 : Int32)), some (.int (0 : Int32)), some (.int (0 : Int32)), some (.int (0 : Int32))]) dX11_shot_103 (by decide) rfl ?_
        refine Jx.sub (L' := [some (.ref 0), some (.int v1), some (.int v2), some (.int v3), some (.int v4), some (.int v5), none, some (.int (0 : Int32)), some (.int (0 : Int32)), some (.int (0 : Int32)), some (.int (0 : Int32))]) (⟨rfl, ⟨rfl, ⟨rfl, ⟨rfl, ⟨rfl, ⟨rfl, ⟨rfl, ⟨rfl, ⟨rfl, ⟨rfl, trivial⟩⟩⟩⟩⟩⟩⟩⟩⟩⟩) ?_
        exact jX11_shot_105 FU v1 v2 v3 v4 v5 (0 : Int32) (0 : Int32) (0 : Int32) (0 : Int32) h18 H
      · rw [if_neg c20] at H
        refine j_bipush (pc := 90) (v := -2) dX11_shot_90 (by decide) ?_
        exact j_ireturn (pc := 92) dX11_shot_92 rfl (ri_1 H) (ri_2 H)
    · rw [if_pos c17] at H
      refine j_iconst (pc := 75) (v := -1) dX11_shot_75 (by decide) ?_
      exact j_ireturn (pc := 76) dX11_shot_76 rfl (ri_1 H) (ri_2 H)
noncomputable def fX11_shot_50 (v1 : Int32) (v2 : Int32) (v3 : Int32) (v4 : Int32) (v5 : Int32) (h : HS) : Option (Int32 × HS) := fX11_shot_51 v1 v2 v3 v4 v5 (0 : Int32) h
set_option maxRecDepth 100000 in
theorem jX11_shot_50 {r : Int32} {h0 : HS} (v1 : Int32) (v2 : Int32) (v3 : Int32) (v4 : Int32) (v5 : Int32) (h : HS) (H : fX11_shot_50 v1 v2 v3 v4 v5 h = some (r, h0)) : Jx skC RX11 cX11_shot 11 (some .int) 2 (some (.int r)) h0 50 [some (.ref 0), some (.int v1), some (.int v2), some (.int v3), some (.int v4), some (.int v5), none, none, none, none, none] [] h := by
  unfold fX11_shot_50 at H
  refine j_iconst (pc := 50) (v := 0) dX11_shot_50 (by decide) ?_
  refine Jx.sub (L' := [some (.ref 0), some (.int v1), some (.int v2), some (.int v3), some (.int v4), some (.int v5), none, none, none, none, none]) (⟨rfl, ⟨rfl, ⟨rfl, ⟨rfl, ⟨rfl, ⟨rfl, trivial⟩⟩⟩⟩⟩⟩) ?_
  exact jX11_shot_51 v1 v2 v3 v4 v5 (0 : Int32) h H
noncomputable def fX11_shot (p1 : Int32) (p2 : Int32) (p3 : Int32) (p4 : Int32) (p5 : Int32) (h : HS) : Option (Int32 × HS) := bd (fX4_isA p1 (3 : Int32) h) (fun r2 h1 => if r2 = 0 then (fX11_shot_50 p1 p2 p3 p4 p5 h1) else (bd (fX4_isA p5 (0 : Int32) h1) (fun r5 h4 => if r5 = 0 then (fX11_shot_50 p1 p2 p3 p4 p5 h4) else (bd (fX11_between p3 (0 : Int32) (60 : Int32) h4) (fun r8 h7 => if r8 = 0 then (fX11_shot_50 p1 p2 p3 p4 p5 h7) else (bd (fX11_between p4 (1 : Int32) (99 : Int32) h7) (fun r11 h10 => if r11 = 0 then (fX11_shot_50 p1 p2 p3 p4 p5 h10) else (fX11_shot_51 p1 p2 p3 p4 p5 (1 : Int32) h10))))))))
set_option maxRecDepth 100000 in
theorem tX11_shot {p1 : Int32} {p2 : Int32} {p3 : Int32} {p4 : Int32} {p5 : Int32} {r : Int32} {h h0 : HS} (H : fX11_shot p1 p2 p3 p4 p5 h = some (r, h0)) : Cn skC yX11_shot cX11_shot 11 (some .int) 2 [.ref 0, .int p1, .int p2, .int p3, .int p4, .int p5] h (some (.int r)) h0 := by
  refine Cn_of (L := [some (.ref 0), some (.int p1), some (.int p2), some (.int p3), some (.int p4), some (.int p5), none, none, none, none, none]) (by decide +kernel) (by simp [lg_sl, Value.category]) (fun ad => by simp [lg_sl, tv, Value.category]) (⟨rfl, ⟨rfl, ⟨rfl, ⟨rfl, ⟨rfl, ⟨rfl, trivial⟩⟩⟩⟩⟩⟩) ?_
  unfold fX11_shot at H
  refine j_aload_n (pc := 0) dX11_shot_0 rfl ?_
  refine j_getR (pc := 1) (b := 2) dX11_shot_1 flX11_20 rfl ?_
  refine j_iload_n (pc := 4) dX11_shot_4 rfl ?_
  refine j_iconst (pc := 5) (v := 3) dX11_shot_5 (by decide) ?_
  obtain ⟨r2, h1, eh1, H⟩ := bd_x H
  refine j_callV (pc := 6) dX11_shot_6 mlX11_295 wyX4_isA (tX4_isA eh1) (by decide) rfl rfl rfl rfl (by simp [Value.category]) rfl ?_
  refine j_if_eq (pc := 9) (tgt := 50) dX11_shot_9 (by decide) (fun c3 => ?_) (fun c3 => ?_)
  · rw [if_pos c3] at H
    refine Jx.sub (L' := [some (.ref 0), some (.int p1), some (.int p2), some (.int p3), some (.int p4), some (.int p5), none, none, none, none, none]) (⟨rfl, ⟨rfl, ⟨rfl, ⟨rfl, ⟨rfl, ⟨rfl, trivial⟩⟩⟩⟩⟩⟩) ?_
    exact jX11_shot_50 p1 p2 p3 p4 p5 h1 H
  · rw [if_neg c3] at H
    refine j_aload_n (pc := 12) dX11_shot_12 rfl ?_
    refine j_getR (pc := 13) (b := 2) dX11_shot_13 flX11_20 rfl ?_
    refine j_iload (pc := 16) dX11_shot_16 rfl ?_
    refine j_iconst (pc := 18) (v := 0) dX11_shot_18 (by decide) ?_
    obtain ⟨r5, h4, eh4, H⟩ := bd_x H
    refine j_callV (pc := 19) dX11_shot_19 mlX11_295 wyX4_isA (tX4_isA eh4) (by decide) rfl rfl rfl rfl (by simp [Value.category]) rfl ?_
    refine j_if_eq (pc := 22) (tgt := 50) dX11_shot_22 (by decide) (fun c6 => ?_) (fun c6 => ?_)
    · rw [if_pos c6] at H
      refine Jx.sub (L' := [some (.ref 0), some (.int p1), some (.int p2), some (.int p3), some (.int p4), some (.int p5), none, none, none, none, none]) (⟨rfl, ⟨rfl, ⟨rfl, ⟨rfl, ⟨rfl, ⟨rfl, trivial⟩⟩⟩⟩⟩⟩) ?_
      exact jX11_shot_50 p1 p2 p3 p4 p5 h4 H
    · rw [if_neg c6] at H
      refine j_iload_n (pc := 25) dX11_shot_25 rfl ?_
      refine j_iconst (pc := 26) (v := 0) dX11_shot_26 (by decide) ?_
      refine j_bipush (pc := 27) (v := 60) dX11_shot_27 (by decide) ?_
      obtain ⟨r8, h7, eh7, H⟩ := bd_x H
      refine j_callS (pc := 29) dX11_shot_29 mlX11_81 wyX11_between (tX11_between eh7) (by decide) rfl (by simp [Value.category]) rfl ?_
      refine j_if_eq (pc := 32) (tgt := 50) dX11_shot_32 (by decide) (fun c9 => ?_) (fun c9 => ?_)
      · rw [if_pos c9] at H
        refine Jx.sub (L' := [some (.ref 0), some (.int p1), some (.int p2), some (.int p3), some (.int p4), some (.int p5), none, none, none, none, none]) (⟨rfl, ⟨rfl, ⟨rfl, ⟨rfl, ⟨rfl, ⟨rfl, trivial⟩⟩⟩⟩⟩⟩) ?_
        exact jX11_shot_50 p1 p2 p3 p4 p5 h7 H
      · rw [if_neg c9] at H
        refine j_iload (pc := 35) dX11_shot_35 rfl ?_
        refine j_iconst (pc := 37) (v := 1) dX11_shot_37 (by decide) ?_
        refine j_bipush (pc := 38) (v := 99) dX11_shot_38 (by decide) ?_
        obtain ⟨r11, h10, eh10, H⟩ := bd_x H
        refine j_callS (pc := 40) dX11_shot_40 mlX11_81 wyX11_between (tX11_between eh10) (by decide) rfl (by simp [Value.category]) rfl ?_
        refine j_if_eq (pc := 43) (tgt := 50) dX11_shot_43 (by decide) (fun c12 => ?_) (fun c12 => ?_)
        · rw [if_pos c12] at H
          refine Jx.sub (L' := [some (.ref 0), some (.int p1), some (.int p2), some (.int p3), some (.int p4), some (.int p5), none, none, none, none, none]) (⟨rfl, ⟨rfl, ⟨rfl, ⟨rfl, ⟨rfl, ⟨rfl, trivial⟩⟩⟩⟩⟩⟩) ?_
          exact jX11_shot_50 p1 p2 p3 p4 p5 h10 H
        · rw [if_neg c12] at H
          refine j_iconst (pc := 46) (v := 1) dX11_shot_46 (by decide) ?_
          refine j_goto (pc := 47) (tgt := 51) dX11_shot_47 (by decide) ?_
          refine Jx.sub (L' := [some (.ref 0), some (.int p1), some (.int p2), some (.int p3), some (.int p4), some (.int p5), none, none, none, none, none]) (⟨rfl, ⟨rfl, ⟨rfl, ⟨rfl, ⟨rfl, ⟨rfl, trivial⟩⟩⟩⟩⟩⟩) ?_
          exact jX11_shot_51 p1 p2 p3 p4 p5 (1 : Int32) h10 H

noncomputable def fX11_dive_60 : Nat → Int32 → Int32 → Int32 → Int32 → HS → Option (Int32 × HS)
  | 0, _, _, _, _, _ => none
  | n + 1, v2, v3, v4, v5, h => if v3 < v5 then (bv (fX6_empty h) (fun h17 => bv (fX6_add ((gI h17 7 4)) h17) (fun h18 => bv (fX6_add v4 h18) (fun h19 => some ((gI h19 7 3), h19))))) else (bv (fX3_goSecond h) (fun h20 => if v4 = (-1 : Int32) then (if (gI h20 7 3) < (v2 * (10 : Int32)) then (nm (v5 + (1 : Int32)) (fun v5_24 => fX11_dive_60 n v2 v3 v4 v5_24 h20)) else (nm (v5 + (1 : Int32)) (fun v5_25 => fX11_dive_60 n v2 v3 v5 v5_25 h20))) else (nm (v5 + (1 : Int32)) (fun v5_22 => fX11_dive_60 n v2 v3 v4 v5_22 h20))))
set_option maxRecDepth 100000 in
theorem jX11_dive_60 {r : Int32} {h0 : HS} : ∀ (n : Nat) (v2 : Int32) (v3 : Int32) (v4 : Int32) (v5 : Int32) (h : HS), fX11_dive_60 n v2 v3 v4 v5 h = some (r, h0) → Jx skC RX11 cX11_dive 6 (some .int) 3 (some (.int r)) h0 60 [some (.ref 0), none, some (.int v2), some (.int v3), some (.int v4), some (.int v5)] [] h := by
  intro n
  induction n with
  | zero => intro v2 v3 v4 v5  h H; cases H
  | succ n ih =>
    intro v2 v3 v4 v5  h H
    rw [fX11_dive_60] at H
    refine j_iload (pc := 60) dX11_dive_60 rfl ?_
    refine j_iload_n (pc := 62) dX11_dive_62 rfl ?_
    refine j_icmp_gt (pc := 63) (tgt := 103) dX11_dive_63 (by decide) (fun c16 => ?_) (fun c16 => ?_)
    · rw [if_pos c16] at H
      refine j_aload_n (pc := 103) dX11_dive_103 rfl ?_
      refine j_getR (pc := 104) (b := 4) dX11_dive_104 flX11_29 rfl ?_
      obtain ⟨h17, eh17, H⟩ := bv_x H
      refine j_callV (pc := 107) dX11_dive_107 mlX11_207 wyX6_empty (tX6_empty eh17) (by decide) rfl rfl rfl rfl (by simp [Value.category]) rfl ?_
      refine j_aload_n (pc := 110) dX11_dive_110 rfl ?_
      refine j_getR (pc := 111) (b := 4) dX11_dive_111 flX11_29 rfl ?_
      refine j_aload_n (pc := 114) dX11_dive_114 rfl ?_
      refine j_getR (pc := 115) (b := 7) dX11_dive_115 flX11_56 rfl ?_
      refine j_getI (pc := 118) dX11_dive_118 flX11_348 rfl ?_
      obtain ⟨h18, eh18, H⟩ := bv_x H
      refine j_callV (pc := 121) dX11_dive_121 mlX11_210 wyX6_add (tX6_add eh18) (by decide) rfl rfl rfl rfl (by simp [Value.category]) rfl ?_
      refine j_aload_n (pc := 124) dX11_dive_124 rfl ?_
      refine j_getR (pc := 125) (b := 4) dX11_dive_125 flX11_29 rfl ?_
      refine j_iload (pc := 128) dX11_dive_128 rfl ?_
      obtain ⟨h19, eh19, H⟩ := bv_x H
      refine j_callV (pc := 130) dX11_dive_130 mlX11_210 wyX6_add (tX6_add eh19) (by decide) rfl rfl rfl rfl (by simp [Value.category]) rfl ?_
      refine j_aload_n (pc := 133) dX11_dive_133 rfl ?_
      refine j_getR (pc := 134) (b := 7) dX11_dive_134 flX11_56 rfl ?_
      refine j_getI (pc := 137) dX11_dive_137 flX11_345 rfl ?_
      exact j_ireturn (pc := 140) dX11_dive_140 rfl (ri_1 H) (ri_2 H)
    · rw [if_neg c16] at H
      refine j_aload_n (pc := 66) dX11_dive_66 rfl ?_
      refine j_getR (pc := 67) (b := 7) dX11_dive_67 flX11_56 rfl ?_
      obtain ⟨h20, eh20, H⟩ := bv_x H
      refine j_callV (pc := 70) dX11_dive_70 mlX11_342 wyX3_goSecond (tX3_goSecond eh20) (by decide) rfl rfl rfl rfl (by simp [Value.category]) rfl ?_
      refine j_iload (pc := 73) dX11_dive_73 rfl ?_
      refine j_iconst (pc := 75) (v := -1) dX11_dive_75 (by decide) ?_
      refine j_icmp_ne (pc := 76) (tgt := 97) dX11_dive_76 (by decide) (fun c21 => ?_) (fun c21 => ?_)
      · rw [if_neg c21] at H
        obtain ⟨v5_22, ev5_22, H⟩ := nm_x H
        refine j_iinc (pc := 97) (L' := [some (.ref 0), none, some (.int v2), some (.int v3), some (.int v4), some (.int v5_22)]) (w := 1) dX11_dive_97 rfl (by decide) (by decide) v5_22 ev5_22 rfl ?_
        refine j_goto (pc := 100) (tgt := 60) dX11_dive_100 (by decide) ?_
        refine Jx.sub (L' := [some (.ref 0), none, some (.int v2), some (.int v3), some (.int v4), some (.int v5_22)]) (⟨rfl, ⟨rfl, ⟨rfl, ⟨rfl, ⟨rfl, trivial⟩⟩⟩⟩⟩) ?_
        exact ih v2 v3 v4 v5_22 h20 H
      · rw [if_pos c21] at H
        refine j_aload_n (pc := 79) dX11_dive_79 rfl ?_
        refine j_getR (pc := 80) (b := 7) dX11_dive_80 flX11_56 rfl ?_
        refine j_getI (pc := 83) dX11_dive_83 flX11_345 rfl ?_
        refine j_iload_n (pc := 86) dX11_dive_86 rfl ?_
        refine j_bipush (pc := 87) (v := 10) dX11_dive_87 (by decide) ?_
        refine j_imul (pc := 89) dX11_dive_89 ?_
        refine j_icmp_lt (pc := 90) (tgt := 97) dX11_dive_90 (by decide) (fun c23 => ?_) (fun c23 => ?_)
        · rw [if_pos c23] at H
          obtain ⟨v5_24, ev5_24, H⟩ := nm_x H
          refine j_iinc (pc := 97) (L' := [some (.ref 0), none, some (.int v2), some (.int v3), some (.int v4), some (.int v5_24)]) (w := 1) dX11_dive_97 rfl (by decide) (by decide) v5_24 ev5_24 rfl ?_
          refine j_goto (pc := 100) (tgt := 60) dX11_dive_100 (by decide) ?_
          refine Jx.sub (L' := [some (.ref 0), none, some (.int v2), some (.int v3), some (.int v4), some (.int v5_24)]) (⟨rfl, ⟨rfl, ⟨rfl, ⟨rfl, ⟨rfl, trivial⟩⟩⟩⟩⟩) ?_
          exact ih v2 v3 v4 v5_24 h20 H
        · rw [if_neg c23] at H
          refine j_iload (pc := 93) dX11_dive_93 rfl ?_
          refine j_istore (pc := 95) (L' := [some (.ref 0), none, some (.int v2), some (.int v3), some (.int v5), some (.int v5)]) dX11_dive_95 (by decide) rfl ?_
          obtain ⟨v5_25, ev5_25, H⟩ := nm_x H
          refine j_iinc (pc := 97) (L' := [some (.ref 0), none, some (.int v2), some (.int v3), some (.int v5), some (.int v5_25)]) (w := 1) dX11_dive_97 rfl (by decide) (by decide) v5_25 ev5_25 rfl ?_
          refine j_goto (pc := 100) (tgt := 60) dX11_dive_100 (by decide) ?_
          refine Jx.sub (L' := [some (.ref 0), none, some (.int v2), some (.int v3), some (.int v5), some (.int v5_25)]) (⟨rfl, ⟨rfl, ⟨rfl, ⟨rfl, ⟨rfl, trivial⟩⟩⟩⟩⟩) ?_
          exact ih v2 v3 v5 v5_25 h20 H
noncomputable def fX11_dive_55 (v2 : Int32) (v3 : Int32) (s0 : Int32) (h : HS) : Option (Int32 × HS) := fX11_dive_60 FU v2 v3 s0 (1 : Int32) h
set_option maxRecDepth 100000 in
theorem jX11_dive_55 {r : Int32} {h0 : HS} (v2 : Int32) (v3 : Int32) (s0 : Int32) (h : HS) (H : fX11_dive_55 v2 v3 s0 h = some (r, h0)) : Jx skC RX11 cX11_dive 6 (some .int) 3 (some (.int r)) h0 55 [some (.ref 0), none, some (.int v2), some (.int v3), none, none] [.int s0] h := by
  unfold fX11_dive_55 at H
  refine j_istore (pc := 55) (L' := [some (.ref 0), none, some (.int v2), some (.int v3), some (.int s0), none]) dX11_dive_55 (by decide) rfl ?_
  refine j_iconst (pc := 57) (v := 1) dX11_dive_57 (by decide) ?_
  refine j_istore (pc := 58) (L' := [some (.ref 0), none, some (.int v2), some (.int v3), some (.int s0), some (.int (1 : Int32))]) dX11_dive_58 (by decide) rfl ?_
  refine Jx.sub (L' := [some (.ref 0), none, some (.int v2), some (.int v3), some (.int s0), some (.int (1 : Int32))]) (⟨rfl, ⟨rfl, ⟨rfl, ⟨rfl, ⟨rfl, trivial⟩⟩⟩⟩⟩) ?_
  exact jX11_dive_60 FU v2 v3 s0 (1 : Int32) h H
noncomputable def fX11_dive (p1 : Int32) (p2 : Int32) (p3 : Int32) (h : HS) : Option (Int32 × HS) := bd (fX11_isDepth p1 h) (fun r2 h1 => if r2 = 0 then (some ((-1 : Int32), h1)) else (bd (fX11_isDepth p2 h1) (fun r5 h4 => if r5 = 0 then (some ((-1 : Int32), h4)) else (bd (fX11_between p3 (0 : Int32) (600 : Int32) h4) (fun r8 h7 => if r8 = 0 then (some ((-1 : Int32), h7)) else (bd (fX0_momentNow h7) (fun r11 h10 => bd (fX3_pushOf r11 h10) (fun r13 h12 => bv (fX3_begin p1 r13 h12) (fun h14 => if p1 < p2 then (fX11_dive_55 p2 p3 (-1 : Int32) h14) else (fX11_dive_55 p2 p3 (0 : Int32) h14))))))))))
set_option maxRecDepth 100000 in
theorem tX11_dive {p1 : Int32} {p2 : Int32} {p3 : Int32} {r : Int32} {h h0 : HS} (H : fX11_dive p1 p2 p3 h = some (r, h0)) : Cn skC yX11_dive cX11_dive 6 (some .int) 3 [.ref 0, .int p1, .int p2, .int p3] h (some (.int r)) h0 := by
  refine Cn_of (L := [some (.ref 0), some (.int p1), some (.int p2), some (.int p3), none, none]) (by decide +kernel) (by simp [lg_sl, Value.category]) (fun ad => by simp [lg_sl, tv, Value.category]) (⟨rfl, ⟨rfl, ⟨rfl, ⟨rfl, trivial⟩⟩⟩⟩) ?_
  unfold fX11_dive at H
  refine j_iload_n (pc := 0) dX11_dive_0 rfl ?_
  obtain ⟨r2, h1, eh1, H⟩ := bd_x H
  refine j_callS (pc := 1) dX11_dive_1 mlX11_142 wyX11_isDepth (tX11_isDepth eh1) (by decide) rfl (by simp [Value.category]) rfl ?_
  refine j_if_eq (pc := 4) (tgt := 25) dX11_dive_4 (by decide) (fun c3 => ?_) (fun c3 => ?_)
  · rw [if_pos c3] at H
    refine j_iconst (pc := 25) (v := -1) dX11_dive_25 (by decide) ?_
    exact j_ireturn (pc := 26) dX11_dive_26 rfl (ri_1 H) (ri_2 H)
  · rw [if_neg c3] at H
    refine j_iload_n (pc := 7) dX11_dive_7 rfl ?_
    obtain ⟨r5, h4, eh4, H⟩ := bd_x H
    refine j_callS (pc := 8) dX11_dive_8 mlX11_142 wyX11_isDepth (tX11_isDepth eh4) (by decide) rfl (by simp [Value.category]) rfl ?_
    refine j_if_eq (pc := 11) (tgt := 25) dX11_dive_11 (by decide) (fun c6 => ?_) (fun c6 => ?_)
    · rw [if_pos c6] at H
      refine j_iconst (pc := 25) (v := -1) dX11_dive_25 (by decide) ?_
      exact j_ireturn (pc := 26) dX11_dive_26 rfl (ri_1 H) (ri_2 H)
    · rw [if_neg c6] at H
      refine j_iload_n (pc := 14) dX11_dive_14 rfl ?_
      refine j_iconst (pc := 15) (v := 0) dX11_dive_15 (by decide) ?_
      refine j_sipush (pc := 16) (v := 600) dX11_dive_16 (by decide) ?_
      obtain ⟨r8, h7, eh7, H⟩ := bd_x H
      refine j_callS (pc := 19) dX11_dive_19 mlX11_81 wyX11_between (tX11_between eh7) (by decide) rfl (by simp [Value.category]) rfl ?_
      refine j_if_ne (pc := 22) (tgt := 27) dX11_dive_22 (by decide) (fun c9 => ?_) (fun c9 => ?_)
      · rw [if_neg c9] at H
        refine j_aload_n (pc := 27) dX11_dive_27 rfl ?_
        refine j_getR (pc := 28) (b := 7) dX11_dive_28 flX11_56 rfl ?_
        refine j_iload_n (pc := 31) dX11_dive_31 rfl ?_
        refine j_aload_n (pc := 32) dX11_dive_32 rfl ?_
        refine j_getR (pc := 33) (b := 1) dX11_dive_33 flX11_10 rfl ?_
        obtain ⟨r11, h10, eh10, H⟩ := bd_x H
        refine j_callV (pc := 36) dX11_dive_36 mlX11_180 wyX0_momentNow (tX0_momentNow eh10) (by decide) rfl rfl rfl rfl (by simp [Value.category]) rfl ?_
        obtain ⟨r13, h12, eh12, H⟩ := bd_x H
        refine j_callS (pc := 39) dX11_dive_39 mlX11_336 wyX3_pushOf (tX3_pushOf eh12) (by decide) rfl (by simp [Value.category]) rfl ?_
        obtain ⟨h14, eh14, H⟩ := bv_x H
        refine j_callV (pc := 42) dX11_dive_42 mlX11_339 wyX3_begin (tX3_begin eh14) (by decide) rfl rfl rfl rfl (by simp [Value.category]) rfl ?_
        refine j_iload_n (pc := 45) dX11_dive_45 rfl ?_
        refine j_iload_n (pc := 46) dX11_dive_46 rfl ?_
        refine j_icmp_lt (pc := 47) (tgt := 54) dX11_dive_47 (by decide) (fun c15 => ?_) (fun c15 => ?_)
        · rw [if_pos c15] at H
          refine j_iconst (pc := 54) (v := -1) dX11_dive_54 (by decide) ?_
          refine Jx.sub (L' := [some (.ref 0), none, some (.int p2), some (.int p3), none, none]) (⟨rfl, ⟨rfl, ⟨rfl, trivial⟩⟩⟩) ?_
          exact jX11_dive_55 p2 p3 (-1 : Int32) h14 H
        · rw [if_neg c15] at H
          refine j_iconst (pc := 50) (v := 0) dX11_dive_50 (by decide) ?_
          refine j_goto (pc := 51) (tgt := 55) dX11_dive_51 (by decide) ?_
          refine Jx.sub (L' := [some (.ref 0), none, some (.int p2), some (.int p3), none, none]) (⟨rfl, ⟨rfl, ⟨rfl, trivial⟩⟩⟩) ?_
          exact jX11_dive_55 p2 p3 (0 : Int32) h14 H
      · rw [if_pos c9] at H
        refine j_iconst (pc := 25) (v := -1) dX11_dive_25 (by decide) ?_
        exact j_ireturn (pc := 26) dX11_dive_26 rfl (ri_1 H) (ri_2 H)

noncomputable def fX11_forward_134 : Nat → Int32 → Int32 → Int32 → Int32 → Int32 → Int32 → Int32 → Int32 → HS → Option (Int32 × HS)
  | 0, _, _, _, _, _, _, _, _, _ => none
  | n + 1, v3, v4, v5, v7, v8, v9, v10, v11, h => if v7 < v11 then (some ((-2 : Int32), h)) else (bd (fX3_pushOf ((v8 + (v11 * v9))) h) (fun r32 h31 => if r32 = v10 then (nm (v11 + (1 : Int32)) (fun v11_34 => fX11_forward_134 n v3 v4 v5 v7 v8 v9 v10 v11_34 h31)) else (bv (fX3_begin v3 r32 h31) (fun h35 => bd (fX3_arrives v4 v5 h35) (fun r37 h36 => if r37 = (-1 : Int32) then (nm (v11 + (1 : Int32)) (fun v11_39 => fX11_forward_134 n v3 v4 v5 v7 v8 v9 r32 v11_39 h36)) else (bv (fX6_empty h36) (fun h40 => bv (fX6_add r37 h40) (fun h41 => some (v11, h41)))))))))
set_option maxRecDepth 100000 in
theorem jX11_forward_134 {r : Int32} {h0 : HS} : ∀ (n : Nat) (v3 : Int32) (v4 : Int32) (v5 : Int32) (v7 : Int32) (v8 : Int32) (v9 : Int32) (v10 : Int32) (v11 : Int32) (h : HS), fX11_forward_134 n v3 v4 v5 v7 v8 v9 v10 v11 h = some (r, h0) → Jx skC RX11 cX11_forward 14 (some .int) 4 (some (.int r)) h0 134 [some (.ref 0), none, none, some (.int v3), some (.int v4), some (.int v5), none, some (.int v7), some (.int v8), some (.int v9), some (.int v10), some (.int v11), none, none] [] h := by
  intro n
  induction n with
  | zero => intro v3 v4 v5 v7 v8 v9 v10 v11  h H; cases H
  | succ n ih =>
    intro v3 v4 v5 v7 v8 v9 v10 v11  h H
    rw [fX11_forward_134] at H
    refine j_iload (pc := 134) dX11_forward_134 rfl ?_
    refine j_iload (pc := 136) dX11_forward_136 rfl ?_
    refine j_icmp_gt (pc := 138) (tgt := 219) dX11_forward_138 (by decide) (fun c30 => ?_) (fun c30 => ?_)
    · rw [if_pos c30] at H
      refine j_bipush (pc := 219) (v := -2) dX11_forward_219 (by decide) ?_
      exact j_ireturn (pc := 221) dX11_forward_221 rfl (ri_1 H) (ri_2 H)
    · rw [if_neg c30] at H
      refine j_iload (pc := 141) dX11_forward_141 rfl ?_
      refine j_iload (pc := 143) dX11_forward_143 rfl ?_
      refine j_iload (pc := 145) dX11_forward_145 rfl ?_
      refine j_imul (pc := 147) dX11_forward_147 ?_
      refine j_iadd (pc := 148) dX11_forward_148 ?_
      obtain ⟨r32, h31, eh31, H⟩ := bd_x H
      refine j_callS (pc := 149) dX11_forward_149 mlX11_336 wyX3_pushOf (tX3_pushOf eh31) (by decide) rfl (by simp [Value.category]) rfl ?_
      refine j_istore (pc := 152) (L' := [some (.ref 0), none, none, some (.int v3), some (.int v4), some (.int v5), none, some (.int v7), some (.int v8), some (.int v9), some (.int v10), some (.int v11), some (.int r32), none]) dX11_forward_152 (by decide) rfl ?_
      refine j_iload (pc := 154) dX11_forward_154 rfl ?_
      refine j_iload (pc := 156) dX11_forward_156 rfl ?_
      refine j_icmp_eq (pc := 158) (tgt := 213) dX11_forward_158 (by decide) (fun c33 => ?_) (fun c33 => ?_)
      · rw [if_pos c33] at H
        obtain ⟨v11_34, ev11_34, H⟩ := nm_x H
        refine j_iinc (pc := 213) (L' := [some (.ref 0), none, none, some (.int v3), some (.int v4), some (.int v5), none, some (.int v7), some (.int v8), some (.int v9), some (.int v10), some (.int v11_34), some (.int r32), none]) (w := 1) dX11_forward_213 rfl (by decide) (by decide) v11_34 ev11_34 rfl ?_
        refine j_goto (pc := 216) (tgt := 134) dX11_forward_216 (by decide) ?_
        refine Jx.sub (L' := [some (.ref 0), none, none, some (.int v3), some (.int v4), some (.int v5), none, some (.int v7), some (.int v8), some (.int v9), some (.int v10), some (.int v11_34), none, none]) (⟨rfl, ⟨rfl, ⟨rfl, ⟨rfl, ⟨rfl, ⟨rfl, ⟨rfl, ⟨rfl, ⟨rfl, trivial⟩⟩⟩⟩⟩⟩⟩⟩⟩) ?_
        exact ih v3 v4 v5 v7 v8 v9 v10 v11_34 h31 H
      · rw [if_neg c33] at H
        refine j_iload (pc := 161) dX11_forward_161 rfl ?_
        refine j_istore (pc := 163) (L' := [some (.ref 0), none, none, some (.int v3), some (.int v4), some (.int v5), none, some (.int v7), some (.int v8), some (.int v9), some (.int r32), some (.int v11), some (.int r32), none]) dX11_forward_163 (by decide) rfl ?_
        refine j_aload_n (pc := 165) dX11_forward_165 rfl ?_
        refine j_getR (pc := 166) (b := 7) dX11_forward_166 flX11_56 rfl ?_
        refine j_iload_n (pc := 169) dX11_forward_169 rfl ?_
        refine j_iload (pc := 170) dX11_forward_170 rfl ?_
        obtain ⟨h35, eh35, H⟩ := bv_x H
        refine j_callV (pc := 172) dX11_forward_172 mlX11_339 wyX3_begin (tX3_begin eh35) (by decide) rfl rfl rfl rfl (by simp [Value.category]) rfl ?_
        refine j_aload_n (pc := 175) dX11_forward_175 rfl ?_
        refine j_getR (pc := 176) (b := 7) dX11_forward_176 flX11_56 rfl ?_
        refine j_iload (pc := 179) dX11_forward_179 rfl ?_
        refine j_iload (pc := 181) dX11_forward_181 rfl ?_
        obtain ⟨r37, h36, eh36, H⟩ := bd_x H
        refine j_callV (pc := 183) dX11_forward_183 mlX11_351 wyX3_arrives (tX3_arrives eh36) (by decide) rfl rfl rfl rfl (by simp [Value.category]) rfl ?_
        refine j_istore (pc := 186) (L' := [some (.ref 0), none, none, some (.int v3), some (.int v4), some (.int v5), none, some (.int v7), some (.int v8), some (.int v9), some (.int r32), some (.int v11), some (.int r32), some (.int r37)]) dX11_forward_186 (by decide) rfl ?_
        refine j_iload (pc := 188) dX11_forward_188 rfl ?_
        refine j_iconst (pc := 190) (v := -1) dX11_forward_190 (by decide) ?_
        refine j_icmp_eq (pc := 191) (tgt := 213) dX11_forward_191 (by decide) (fun c38 => ?_) (fun c38 => ?_)
        · rw [if_pos c38] at H
          obtain ⟨v11_39, ev11_39, H⟩ := nm_x H
          refine j_iinc (pc := 213) (L' := [some (.ref 0), none, none, some (.int v3), some (.int v4), some (.int v5), none, some (.int v7), some (.int v8), some (.int v9), some (.int r32), some (.int v11_39), some (.int r32), some (.int r37)]) (w := 1) dX11_forward_213 rfl (by decide) (by decide) v11_39 ev11_39 rfl ?_
          refine j_goto (pc := 216) (tgt := 134) dX11_forward_216 (by decide) ?_
          refine Jx.sub (L' := [some (.ref 0), none, none, some (.int v3), some (.int v4), some (.int v5), none, some (.int v7), some (.int v8), some (.int v9), some (.int r32), some (.int v11_39), none, none]) (⟨rfl, ⟨rfl, ⟨rfl, ⟨rfl, ⟨rfl, ⟨rfl, ⟨rfl, ⟨rfl, ⟨rfl, trivial⟩⟩⟩⟩⟩⟩⟩⟩⟩) ?_
          exact ih v3 v4 v5 v7 v8 v9 r32 v11_39 h36 H
        · rw [if_neg c38] at H
          refine j_aload_n (pc := 194) dX11_forward_194 rfl ?_
          refine j_getR (pc := 195) (b := 4) dX11_forward_195 flX11_29 rfl ?_
          obtain ⟨h40, eh40, H⟩ := bv_x H
          refine j_callV (pc := 198) dX11_forward_198 mlX11_207 wyX6_empty (tX6_empty eh40) (by decide) rfl rfl rfl rfl (by simp [Value.category]) rfl ?_
          refine j_aload_n (pc := 201) dX11_forward_201 rfl ?_
          refine j_getR (pc := 202) (b := 4) dX11_forward_202 flX11_29 rfl ?_
          refine j_iload (pc := 205) dX11_forward_205 rfl ?_
          obtain ⟨h41, eh41, H⟩ := bv_x H
          refine j_callV (pc := 207) dX11_forward_207 mlX11_210 wyX6_add (tX6_add eh41) (by decide) rfl rfl rfl rfl (by simp [Value.category]) rfl ?_
          refine j_iload (pc := 210) dX11_forward_210 rfl ?_
          exact j_ireturn (pc := 212) dX11_forward_212 rfl (ri_1 H) (ri_2 H)
noncomputable def fX11_forward_34 (v1 : Int32) (v2 : Int32) (v3 : Int32) (v4 : Int32) (v5 : Int32) (s0 : Int32) (h : HS) : Option (Int32 × HS) := if s0 = 0 then (some ((-1 : Int32), h)) else (bd (fX11_isDepth v3 h) (fun r10 h9 => if r10 = 0 then (some ((-1 : Int32), h9)) else (bd (fX11_isDepth v4 h9) (fun r13 h12 => if r13 = 0 then (some ((-1 : Int32), h12)) else (bd (fX11_between v5 (0 : Int32) (600 : Int32) h12) (fun r16 h15 => if r16 = 0 then (some ((-1 : Int32), h15)) else (ck (inb v1 15) (bd (fX4_room v2 h15) (fun r20 h19 => nm ((imin (gI h15 30 v1.toNatClampNeg) r20)) (fun v7_21 => bd (fX0_momentNow h19) (fun r23 h22 => ck (inb v2 15) (ck (inb v1 15) (nm (((gI h22 27 v2.toNatClampNeg) - (gI h22 27 v1.toNatClampNeg))) (fun v9_26 => bd (fX3_pushOf r23 h22) (fun r28 h27 => nm ((r28 + (1 : Int32))) (fun v10_29 => fX11_forward_134 FU v3 v4 v5 v7_21 r23 v9_26 v10_29 (0 : Int32) h27))))))))))))))))
set_option maxRecDepth 100000 in
theorem jX11_forward_34 {r : Int32} {h0 : HS} (v1 : Int32) (v2 : Int32) (v3 : Int32) (v4 : Int32) (v5 : Int32) (s0 : Int32) (h : HS) (H : fX11_forward_34 v1 v2 v3 v4 v5 s0 h = some (r, h0)) : Jx skC RX11 cX11_forward 14 (some .int) 4 (some (.int r)) h0 34 [some (.ref 0), some (.int v1), some (.int v2), some (.int v3), some (.int v4), some (.int v5), none, none, none, none, none, none, none, none] [.int s0] h := by
  unfold fX11_forward_34 at H
  refine j_istore (pc := 34) (L' := [some (.ref 0), some (.int v1), some (.int v2), some (.int v3), some (.int v4), some (.int v5), some (.int s0), none, none, none, none, none, none, none]) dX11_forward_34 (by decide) rfl ?_
  refine j_iload (pc := 36) dX11_forward_36 rfl ?_
  refine j_if_eq (pc := 38) (tgt := 68) dX11_forward_38 (by decide) (fun c8 => ?_) (fun c8 => ?_)
  · rw [if_pos c8] at H
    refine j_iconst (pc := 68) (v := -1) dX11_forward_68 (by decide) ?_
    exact j_ireturn (pc := 69) dX11_forward_69 rfl (ri_1 H) (ri_2 H)
  · rw [if_neg c8] at H
    refine j_iload_n (pc := 41) dX11_forward_41 rfl ?_
    obtain ⟨r10, h9, eh9, H⟩ := bd_x H
    refine j_callS (pc := 42) dX11_forward_42 mlX11_142 wyX11_isDepth (tX11_isDepth eh9) (by decide) rfl (by simp [Value.category]) rfl ?_
    refine j_if_eq (pc := 45) (tgt := 68) dX11_forward_45 (by decide) (fun c11 => ?_) (fun c11 => ?_)
    · rw [if_pos c11] at H
      refine j_iconst (pc := 68) (v := -1) dX11_forward_68 (by decide) ?_
      exact j_ireturn (pc := 69) dX11_forward_69 rfl (ri_1 H) (ri_2 H)
    · rw [if_neg c11] at H
      refine j_iload (pc := 48) dX11_forward_48 rfl ?_
      obtain ⟨r13, h12, eh12, H⟩ := bd_x H
      refine j_callS (pc := 50) dX11_forward_50 mlX11_142 wyX11_isDepth (tX11_isDepth eh12) (by decide) rfl (by simp [Value.category]) rfl ?_
      refine j_if_eq (pc := 53) (tgt := 68) dX11_forward_53 (by decide) (fun c14 => ?_) (fun c14 => ?_)
      · rw [if_pos c14] at H
        refine j_iconst (pc := 68) (v := -1) dX11_forward_68 (by decide) ?_
        exact j_ireturn (pc := 69) dX11_forward_69 rfl (ri_1 H) (ri_2 H)
      · rw [if_neg c14] at H
        refine j_iload (pc := 56) dX11_forward_56 rfl ?_
        refine j_iconst (pc := 58) (v := 0) dX11_forward_58 (by decide) ?_
        refine j_sipush (pc := 59) (v := 600) dX11_forward_59 (by decide) ?_
        obtain ⟨r16, h15, eh15, H⟩ := bd_x H
        refine j_callS (pc := 62) dX11_forward_62 mlX11_81 wyX11_between (tX11_between eh15) (by decide) rfl (by simp [Value.category]) rfl ?_
        refine j_if_ne (pc := 65) (tgt := 70) dX11_forward_65 (by decide) (fun c17 => ?_) (fun c17 => ?_)
        · rw [if_neg c17] at H
          refine j_aload_n (pc := 70) dX11_forward_70 rfl ?_
          refine j_getR (pc := 71) (b := 2) dX11_forward_71 flX11_20 rfl ?_
          refine j_getR (pc := 74) (b := 30) dX11_forward_74 flX11_98 rfl ?_
          refine j_iload_n (pc := 77) dX11_forward_77 rfl ?_
          obtain ⟨b18, H⟩ := ck_x H
          refine j_iaload (pc := 78) dX11_forward_78 rfl b18 rfl ?_
          refine j_aload_n (pc := 79) dX11_forward_79 rfl ?_
          refine j_getR (pc := 80) (b := 2) dX11_forward_80 flX11_20 rfl ?_
          refine j_iload_n (pc := 83) dX11_forward_83 rfl ?_
          obtain ⟨r20, h19, eh19, H⟩ := bd_x H
          refine j_callV (pc := 84) dX11_forward_84 mlX11_268 wyX4_room (tX4_room eh19) (by decide) rfl rfl rfl rfl (by simp [Value.category]) rfl ?_
          refine j_mmin (pc := 87) dX11_forward_87 wmX11_108 (by simp [Value.category]) ?_
          obtain ⟨v7_21, ev7_21, H⟩ := nm_x H
          refine j_topi ev7_21 ?_
          refine j_istore (pc := 90) (L' := [some (.ref 0), some (.int v1), some (.int v2), some (.int v3), some (.int v4), some (.int v5), some (.int s0), some (.int v7_21), none, none, none, none, none, none]) dX11_forward_90 (by decide) rfl ?_
          refine j_aload_n (pc := 92) dX11_forward_92 rfl ?_
          refine j_getR (pc := 93) (b := 1) dX11_forward_93 flX11_10 rfl ?_
          obtain ⟨r23, h22, eh22, H⟩ := bd_x H
          refine j_callV (pc := 96) dX11_forward_96 mlX11_180 wyX0_momentNow (tX0_momentNow eh22) (by decide) rfl rfl rfl rfl (by simp [Value.category]) rfl ?_
          refine j_istore (pc := 99) (L' := [some (.ref 0), some (.int v1), some (.int v2), some (.int v3), some (.int v4), some (.int v5), some (.int s0), some (.int v7_21), some (.int r23), none, none, none, none, none]) dX11_forward_99 (by decide) rfl ?_
          refine j_aload_n (pc := 101) dX11_forward_101 rfl ?_
          refine j_getR (pc := 102) (b := 2) dX11_forward_102 flX11_20 rfl ?_
          refine j_getR (pc := 105) (b := 27) dX11_forward_105 flX11_164 rfl ?_
          refine j_iload_n (pc := 108) dX11_forward_108 rfl ?_
          obtain ⟨b24, H⟩ := ck_x H
          refine j_iaload (pc := 109) dX11_forward_109 rfl b24 rfl ?_
          refine j_aload_n (pc := 110) dX11_forward_110 rfl ?_
          refine j_getR (pc := 111) (b := 2) dX11_forward_111 flX11_20 rfl ?_
          refine j_getR (pc := 114) (b := 27) dX11_forward_114 flX11_164 rfl ?_
          refine j_iload_n (pc := 117) dX11_forward_117 rfl ?_
          obtain ⟨b25, H⟩ := ck_x H
          refine j_iaload (pc := 118) dX11_forward_118 rfl b25 rfl ?_
          refine j_isub (pc := 119) dX11_forward_119 ?_
          obtain ⟨v9_26, ev9_26, H⟩ := nm_x H
          refine j_topi ev9_26 ?_
          refine j_istore (pc := 120) (L' := [some (.ref 0), some (.int v1), some (.int v2), some (.int v3), some (.int v4), some (.int v5), some (.int s0), some (.int v7_21), some (.int r23), some (.int v9_26), none, none, none, none]) dX11_forward_120 (by decide) rfl ?_
          refine j_iload (pc := 122) dX11_forward_122 rfl ?_
          obtain ⟨r28, h27, eh27, H⟩ := bd_x H
          refine j_callS (pc := 124) dX11_forward_124 mlX11_336 wyX3_pushOf (tX3_pushOf eh27) (by decide) rfl (by simp [Value.category]) rfl ?_
          refine j_iconst (pc := 127) (v := 1) dX11_forward_127 (by decide) ?_
          refine j_iadd (pc := 128) dX11_forward_128 ?_
          obtain ⟨v10_29, ev10_29, H⟩ := nm_x H
          refine j_topi ev10_29 ?_
          refine j_istore (pc := 129) (L' := [some (.ref 0), some (.int v1), some (.int v2), some (.int v3), some (.int v4), some (.int v5), some (.int s0), some (.int v7_21), some (.int r23), some (.int v9_26), some (.int v10_29), none, none, none]) dX11_forward_129 (by decide) rfl ?_
          refine j_iconst (pc := 131) (v := 0) dX11_forward_131 (by decide) ?_
          refine j_istore (pc := 132) (L' := [some (.ref 0), some (.int v1), some (.int v2), some (.int v3), some (.int v4), some (.int v5), some (.int s0), some (.int v7_21), some (.int r23), some (.int v9_26), some (.int v10_29), some (.int (0 : Int32)), none, none]) dX11_forward_132 (by decide) rfl ?_
          refine Jx.sub (L' := [some (.ref 0), none, none, some (.int v3), some (.int v4), some (.int v5), none, some (.int v7_21), some (.int r23), some (.int v9_26), some (.int v10_29), some (.int (0 : Int32)), none, none]) (⟨rfl, ⟨rfl, ⟨rfl, ⟨rfl, ⟨rfl, ⟨rfl, ⟨rfl, ⟨rfl, ⟨rfl, trivial⟩⟩⟩⟩⟩⟩⟩⟩⟩) ?_
          exact jX11_forward_134 FU v3 v4 v5 v7_21 r23 v9_26 v10_29 (0 : Int32) h27 H
        · rw [if_pos c17] at H
          refine j_iconst (pc := 68) (v := -1) dX11_forward_68 (by decide) ?_
          exact j_ireturn (pc := 69) dX11_forward_69 rfl (ri_1 H) (ri_2 H)
noncomputable def fX11_forward_33 (v1 : Int32) (v2 : Int32) (v3 : Int32) (v4 : Int32) (v5 : Int32) (h : HS) : Option (Int32 × HS) := fX11_forward_34 v1 v2 v3 v4 v5 (0 : Int32) h
set_option maxRecDepth 100000 in
theorem jX11_forward_33 {r : Int32} {h0 : HS} (v1 : Int32) (v2 : Int32) (v3 : Int32) (v4 : Int32) (v5 : Int32) (h : HS) (H : fX11_forward_33 v1 v2 v3 v4 v5 h = some (r, h0)) : Jx skC RX11 cX11_forward 14 (some .int) 4 (some (.int r)) h0 33 [some (.ref 0), some (.int v1), some (.int v2), some (.int v3), some (.int v4), some (.int v5), none, none, none, none, none, none, none, none] [] h := by
  unfold fX11_forward_33 at H
  refine j_iconst (pc := 33) (v := 0) dX11_forward_33 (by decide) ?_
  refine Jx.sub (L' := [some (.ref 0), some (.int v1), some (.int v2), some (.int v3), some (.int v4), some (.int v5), none, none, none, none, none, none, none, none]) (⟨rfl, ⟨rfl, ⟨rfl, ⟨rfl, ⟨rfl, ⟨rfl, trivial⟩⟩⟩⟩⟩⟩) ?_
  exact jX11_forward_34 v1 v2 v3 v4 v5 (0 : Int32) h H
noncomputable def fX11_forward (p1 : Int32) (p2 : Int32) (p3 : Int32) (p4 : Int32) (p5 : Int32) (h : HS) : Option (Int32 × HS) := bd (fX4_isA p1 (2 : Int32) h) (fun r2 h1 => if r2 = 0 then (fX11_forward_33 p1 p2 p3 p4 p5 h1) else (bd (fX4_isA p2 (2 : Int32) h1) (fun r5 h4 => if r5 = 0 then (fX11_forward_33 p1 p2 p3 p4 p5 h4) else (if p1 = p2 then (fX11_forward_33 p1 p2 p3 p4 p5 h4) else (fX11_forward_34 p1 p2 p3 p4 p5 (1 : Int32) h4)))))
set_option maxRecDepth 100000 in
theorem tX11_forward {p1 : Int32} {p2 : Int32} {p3 : Int32} {p4 : Int32} {p5 : Int32} {r : Int32} {h h0 : HS} (H : fX11_forward p1 p2 p3 p4 p5 h = some (r, h0)) : Cn skC yX11_forward cX11_forward 14 (some .int) 4 [.ref 0, .int p1, .int p2, .int p3, .int p4, .int p5] h (some (.int r)) h0 := by
  refine Cn_of (L := [some (.ref 0), some (.int p1), some (.int p2), some (.int p3), some (.int p4), some (.int p5), none, none, none, none, none, none, none, none]) (by decide +kernel) (by simp [lg_sl, Value.category]) (fun ad => by simp [lg_sl, tv, Value.category]) (⟨rfl, ⟨rfl, ⟨rfl, ⟨rfl, ⟨rfl, ⟨rfl, trivial⟩⟩⟩⟩⟩⟩) ?_
  unfold fX11_forward at H
  refine j_aload_n (pc := 0) dX11_forward_0 rfl ?_
  refine j_getR (pc := 1) (b := 2) dX11_forward_1 flX11_20 rfl ?_
  refine j_iload_n (pc := 4) dX11_forward_4 rfl ?_
  refine j_iconst (pc := 5) (v := 2) dX11_forward_5 (by decide) ?_
  obtain ⟨r2, h1, eh1, H⟩ := bd_x H
  refine j_callV (pc := 6) dX11_forward_6 mlX11_295 wyX4_isA (tX4_isA eh1) (by decide) rfl rfl rfl rfl (by simp [Value.category]) rfl ?_
  refine j_if_eq (pc := 9) (tgt := 33) dX11_forward_9 (by decide) (fun c3 => ?_) (fun c3 => ?_)
  · rw [if_pos c3] at H
    refine Jx.sub (L' := [some (.ref 0), some (.int p1), some (.int p2), some (.int p3), some (.int p4), some (.int p5), none, none, none, none, none, none, none, none]) (⟨rfl, ⟨rfl, ⟨rfl, ⟨rfl, ⟨rfl, ⟨rfl, trivial⟩⟩⟩⟩⟩⟩) ?_
    exact jX11_forward_33 p1 p2 p3 p4 p5 h1 H
  · rw [if_neg c3] at H
    refine j_aload_n (pc := 12) dX11_forward_12 rfl ?_
    refine j_getR (pc := 13) (b := 2) dX11_forward_13 flX11_20 rfl ?_
    refine j_iload_n (pc := 16) dX11_forward_16 rfl ?_
    refine j_iconst (pc := 17) (v := 2) dX11_forward_17 (by decide) ?_
    obtain ⟨r5, h4, eh4, H⟩ := bd_x H
    refine j_callV (pc := 18) dX11_forward_18 mlX11_295 wyX4_isA (tX4_isA eh4) (by decide) rfl rfl rfl rfl (by simp [Value.category]) rfl ?_
    refine j_if_eq (pc := 21) (tgt := 33) dX11_forward_21 (by decide) (fun c6 => ?_) (fun c6 => ?_)
    · rw [if_pos c6] at H
      refine Jx.sub (L' := [some (.ref 0), some (.int p1), some (.int p2), some (.int p3), some (.int p4), some (.int p5), none, none, none, none, none, none, none, none]) (⟨rfl, ⟨rfl, ⟨rfl, ⟨rfl, ⟨rfl, ⟨rfl, trivial⟩⟩⟩⟩⟩⟩) ?_
      exact jX11_forward_33 p1 p2 p3 p4 p5 h4 H
    · rw [if_neg c6] at H
      refine j_iload_n (pc := 24) dX11_forward_24 rfl ?_
      refine j_iload_n (pc := 25) dX11_forward_25 rfl ?_
      refine j_icmp_eq (pc := 26) (tgt := 33) dX11_forward_26 (by decide) (fun c7 => ?_) (fun c7 => ?_)
      · rw [if_pos c7] at H
        refine Jx.sub (L' := [some (.ref 0), some (.int p1), some (.int p2), some (.int p3), some (.int p4), some (.int p5), none, none, none, none, none, none, none, none]) (⟨rfl, ⟨rfl, ⟨rfl, ⟨rfl, ⟨rfl, ⟨rfl, trivial⟩⟩⟩⟩⟩⟩) ?_
        exact jX11_forward_33 p1 p2 p3 p4 p5 h4 H
      · rw [if_neg c7] at H
        refine j_iconst (pc := 29) (v := 1) dX11_forward_29 (by decide) ?_
        refine j_goto (pc := 30) (tgt := 34) dX11_forward_30 (by decide) ?_
        refine Jx.sub (L' := [some (.ref 0), some (.int p1), some (.int p2), some (.int p3), some (.int p4), some (.int p5), none, none, none, none, none, none, none, none]) (⟨rfl, ⟨rfl, ⟨rfl, ⟨rfl, ⟨rfl, ⟨rfl, trivial⟩⟩⟩⟩⟩⟩) ?_
        exact jX11_forward_34 p1 p2 p3 p4 p5 (1 : Int32) h4 H

noncomputable def fX11_carry_53 (v1 : Int32) (v2 : Int32) (v3 : Int32) (s0 : Int32) (h : HS) : Option (Int32 × HS) := if s0 = 0 then (some ((0 : Int32), h)) else (if v1 = v2 then (some ((0 : Int32), h)) else (ck (inb v1 15) (bd (fX11_between v3 (1 : Int32) ((gI h 30 v1.toNatClampNeg)) h) (fun r17 h16 => if r17 = 0 then (some ((0 : Int32), h16)) else (bd (fX4_room v2 h16) (fun r20 h19 => if v3 ≤ r20 then (ck (inb v1 15) (ck (inb v1 15) (nm (pI h19 30 v1.toNatClampNeg ((gI h19 30 v1.toNatClampNeg) - v3)) (fun h23 => ck (inb v2 15) (ck (inb v2 15) (nm (pI h23 30 v2.toNatClampNeg ((gI h23 30 v2.toNatClampNeg) + v3)) (fun h26 => some ((1 : Int32), h26)))))))) else (some ((0 : Int32), h19))))))))
set_option maxRecDepth 100000 in
theorem jX11_carry_53 {r : Int32} {h0 : HS} (v1 : Int32) (v2 : Int32) (v3 : Int32) (s0 : Int32) (h : HS) (H : fX11_carry_53 v1 v2 v3 s0 h = some (r, h0)) : Jx skC RX11 cX11_carry 5 (some .boolean) 2 (some (.int r)) h0 53 [some (.ref 0), some (.int v1), some (.int v2), some (.int v3), none] [.int s0] h := by
  unfold fX11_carry_53 at H
  refine j_istore (pc := 53) (L' := [some (.ref 0), some (.int v1), some (.int v2), some (.int v3), some (.int s0)]) dX11_carry_53 (by decide) rfl ?_
  refine j_iload (pc := 55) dX11_carry_55 rfl ?_
  refine j_if_eq (pc := 57) (tgt := 94) dX11_carry_57 (by decide) (fun c13 => ?_) (fun c13 => ?_)
  · rw [if_pos c13] at H
    refine j_iconst (pc := 94) (v := 0) dX11_carry_94 (by decide) ?_
    exact j_zreturn (pc := 95) dX11_carry_95 rfl (rz0 H) (ri_2 H)
  · rw [if_neg c13] at H
    refine j_iload_n (pc := 60) dX11_carry_60 rfl ?_
    refine j_iload_n (pc := 61) dX11_carry_61 rfl ?_
    refine j_icmp_eq (pc := 62) (tgt := 94) dX11_carry_62 (by decide) (fun c14 => ?_) (fun c14 => ?_)
    · rw [if_pos c14] at H
      refine j_iconst (pc := 94) (v := 0) dX11_carry_94 (by decide) ?_
      exact j_zreturn (pc := 95) dX11_carry_95 rfl (rz0 H) (ri_2 H)
    · rw [if_neg c14] at H
      refine j_iload_n (pc := 65) dX11_carry_65 rfl ?_
      refine j_iconst (pc := 66) (v := 1) dX11_carry_66 (by decide) ?_
      refine j_aload_n (pc := 67) dX11_carry_67 rfl ?_
      refine j_getR (pc := 68) (b := 2) dX11_carry_68 flX11_20 rfl ?_
      refine j_getR (pc := 71) (b := 30) dX11_carry_71 flX11_98 rfl ?_
      refine j_iload_n (pc := 74) dX11_carry_74 rfl ?_
      obtain ⟨b15, H⟩ := ck_x H
      refine j_iaload (pc := 75) dX11_carry_75 rfl b15 rfl ?_
      obtain ⟨r17, h16, eh16, H⟩ := bd_x H
      refine j_callS (pc := 76) dX11_carry_76 mlX11_81 wyX11_between (tX11_between eh16) (by decide) rfl (by simp [Value.category]) rfl ?_
      refine j_if_eq (pc := 79) (tgt := 94) dX11_carry_79 (by decide) (fun c18 => ?_) (fun c18 => ?_)
      · rw [if_pos c18] at H
        refine j_iconst (pc := 94) (v := 0) dX11_carry_94 (by decide) ?_
        exact j_zreturn (pc := 95) dX11_carry_95 rfl (rz0 H) (ri_2 H)
      · rw [if_neg c18] at H
        refine j_aload_n (pc := 82) dX11_carry_82 rfl ?_
        refine j_getR (pc := 83) (b := 2) dX11_carry_83 flX11_20 rfl ?_
        refine j_iload_n (pc := 86) dX11_carry_86 rfl ?_
        obtain ⟨r20, h19, eh19, H⟩ := bd_x H
        refine j_callV (pc := 87) dX11_carry_87 mlX11_268 wyX4_room (tX4_room eh19) (by decide) rfl rfl rfl rfl (by simp [Value.category]) rfl ?_
        refine j_iload_n (pc := 90) dX11_carry_90 rfl ?_
        refine j_icmp_ge (pc := 91) (tgt := 96) dX11_carry_91 (by decide) (fun c21 => ?_) (fun c21 => ?_)
        · rw [if_pos c21] at H
          refine j_aload_n (pc := 96) dX11_carry_96 rfl ?_
          refine j_getR (pc := 97) (b := 2) dX11_carry_97 flX11_20 rfl ?_
          refine j_getR (pc := 100) (b := 30) dX11_carry_100 flX11_98 rfl ?_
          refine j_iload_n (pc := 103) dX11_carry_103 rfl ?_
          refine j_dup2 (pc := 104) dX11_carry_104 rfl rfl ?_
          obtain ⟨b22, H⟩ := ck_x H
          refine j_iaload (pc := 105) dX11_carry_105 rfl b22 rfl ?_
          refine j_iload_n (pc := 106) dX11_carry_106 rfl ?_
          refine j_isub (pc := 107) dX11_carry_107 ?_
          obtain ⟨b24, H⟩ := ck_x H
          obtain ⟨h23, eh23, H⟩ := nm_x H
          refine j_iastore (pc := 108) dX11_carry_108 rfl b24 rfl h23 eh23 ?_
          refine j_aload_n (pc := 109) dX11_carry_109 rfl ?_
          refine j_getR (pc := 110) (b := 2) dX11_carry_110 flX11_20 rfl ?_
          refine j_getR (pc := 113) (b := 30) dX11_carry_113 flX11_98 rfl ?_
          refine j_iload_n (pc := 116) dX11_carry_116 rfl ?_
          refine j_dup2 (pc := 117) dX11_carry_117 rfl rfl ?_
          obtain ⟨b25, H⟩ := ck_x H
          refine j_iaload (pc := 118) dX11_carry_118 rfl b25 rfl ?_
          refine j_iload_n (pc := 119) dX11_carry_119 rfl ?_
          refine j_iadd (pc := 120) dX11_carry_120 ?_
          obtain ⟨b27, H⟩ := ck_x H
          obtain ⟨h26, eh26, H⟩ := nm_x H
          refine j_iastore (pc := 121) dX11_carry_121 rfl b27 rfl h26 eh26 ?_
          refine j_iconst (pc := 122) (v := 1) dX11_carry_122 (by decide) ?_
          exact j_zreturn (pc := 123) dX11_carry_123 rfl (rz1 H) (ri_2 H)
        · rw [if_neg c21] at H
          refine j_iconst (pc := 94) (v := 0) dX11_carry_94 (by decide) ?_
          exact j_zreturn (pc := 95) dX11_carry_95 rfl (rz0 H) (ri_2 H)
noncomputable def fX11_carry_52 (v1 : Int32) (v2 : Int32) (v3 : Int32) (h : HS) : Option (Int32 × HS) := fX11_carry_53 v1 v2 v3 (0 : Int32) h
set_option maxRecDepth 100000 in
theorem jX11_carry_52 {r : Int32} {h0 : HS} (v1 : Int32) (v2 : Int32) (v3 : Int32) (h : HS) (H : fX11_carry_52 v1 v2 v3 h = some (r, h0)) : Jx skC RX11 cX11_carry 5 (some .boolean) 2 (some (.int r)) h0 52 [some (.ref 0), some (.int v1), some (.int v2), some (.int v3), none] [] h := by
  unfold fX11_carry_52 at H
  refine j_iconst (pc := 52) (v := 0) dX11_carry_52 (by decide) ?_
  refine Jx.sub (L' := [some (.ref 0), some (.int v1), some (.int v2), some (.int v3), none]) (⟨rfl, ⟨rfl, ⟨rfl, ⟨rfl, trivial⟩⟩⟩⟩) ?_
  exact jX11_carry_53 v1 v2 v3 (0 : Int32) h H
noncomputable def fX11_carry_48 (v1 : Int32) (v2 : Int32) (v3 : Int32) (h : HS) : Option (Int32 × HS) := fX11_carry_53 v1 v2 v3 (1 : Int32) h
set_option maxRecDepth 100000 in
theorem jX11_carry_48 {r : Int32} {h0 : HS} (v1 : Int32) (v2 : Int32) (v3 : Int32) (h : HS) (H : fX11_carry_48 v1 v2 v3 h = some (r, h0)) : Jx skC RX11 cX11_carry 5 (some .boolean) 2 (some (.int r)) h0 48 [some (.ref 0), some (.int v1), some (.int v2), some (.int v3), none] [] h := by
  unfold fX11_carry_48 at H
  refine j_iconst (pc := 48) (v := 1) dX11_carry_48 (by decide) ?_
  refine j_goto (pc := 49) (tgt := 53) dX11_carry_49 (by decide) ?_
  refine Jx.sub (L' := [some (.ref 0), some (.int v1), some (.int v2), some (.int v3), none]) (⟨rfl, ⟨rfl, ⟨rfl, ⟨rfl, trivial⟩⟩⟩⟩) ?_
  exact jX11_carry_53 v1 v2 v3 (1 : Int32) h H
noncomputable def fX11_carry_24 (v1 : Int32) (v2 : Int32) (v3 : Int32) (h : HS) : Option (Int32 × HS) := bd (fX4_isA v1 (1 : Int32) h) (fun r8 h7 => if r8 = 0 then (fX11_carry_52 v1 v2 v3 h7) else (bd (fX4_isA v2 (1 : Int32) h7) (fun r11 h10 => if r11 = 0 then (fX11_carry_52 v1 v2 v3 h10) else (fX11_carry_48 v1 v2 v3 h10))))
set_option maxRecDepth 100000 in
theorem jX11_carry_24 {r : Int32} {h0 : HS} (v1 : Int32) (v2 : Int32) (v3 : Int32) (h : HS) (H : fX11_carry_24 v1 v2 v3 h = some (r, h0)) : Jx skC RX11 cX11_carry 5 (some .boolean) 2 (some (.int r)) h0 24 [some (.ref 0), some (.int v1), some (.int v2), some (.int v3), none] [] h := by
  unfold fX11_carry_24 at H
  refine j_aload_n (pc := 24) dX11_carry_24 rfl ?_
  refine j_getR (pc := 25) (b := 2) dX11_carry_25 flX11_20 rfl ?_
  refine j_iload_n (pc := 28) dX11_carry_28 rfl ?_
  refine j_iconst (pc := 29) (v := 1) dX11_carry_29 (by decide) ?_
  obtain ⟨r8, h7, eh7, H⟩ := bd_x H
  refine j_callV (pc := 30) dX11_carry_30 mlX11_295 wyX4_isA (tX4_isA eh7) (by decide) rfl rfl rfl rfl (by simp [Value.category]) rfl ?_
  refine j_if_eq (pc := 33) (tgt := 52) dX11_carry_33 (by decide) (fun c9 => ?_) (fun c9 => ?_)
  · rw [if_pos c9] at H
    refine Jx.sub (L' := [some (.ref 0), some (.int v1), some (.int v2), some (.int v3), none]) (⟨rfl, ⟨rfl, ⟨rfl, ⟨rfl, trivial⟩⟩⟩⟩) ?_
    exact jX11_carry_52 v1 v2 v3 h7 H
  · rw [if_neg c9] at H
    refine j_aload_n (pc := 36) dX11_carry_36 rfl ?_
    refine j_getR (pc := 37) (b := 2) dX11_carry_37 flX11_20 rfl ?_
    refine j_iload_n (pc := 40) dX11_carry_40 rfl ?_
    refine j_iconst (pc := 41) (v := 1) dX11_carry_41 (by decide) ?_
    obtain ⟨r11, h10, eh10, H⟩ := bd_x H
    refine j_callV (pc := 42) dX11_carry_42 mlX11_295 wyX4_isA (tX4_isA eh10) (by decide) rfl rfl rfl rfl (by simp [Value.category]) rfl ?_
    refine j_if_eq (pc := 45) (tgt := 52) dX11_carry_45 (by decide) (fun c12 => ?_) (fun c12 => ?_)
    · rw [if_pos c12] at H
      refine Jx.sub (L' := [some (.ref 0), some (.int v1), some (.int v2), some (.int v3), none]) (⟨rfl, ⟨rfl, ⟨rfl, ⟨rfl, trivial⟩⟩⟩⟩) ?_
      exact jX11_carry_52 v1 v2 v3 h10 H
    · rw [if_neg c12] at H
      refine Jx.sub (L' := [some (.ref 0), some (.int v1), some (.int v2), some (.int v3), none]) (⟨rfl, ⟨rfl, ⟨rfl, ⟨rfl, trivial⟩⟩⟩⟩) ?_
      exact jX11_carry_48 v1 v2 v3 h10 H
noncomputable def fX11_carry (p1 : Int32) (p2 : Int32) (p3 : Int32) (h : HS) : Option (Int32 × HS) := bd (fX4_isA p1 (2 : Int32) h) (fun r2 h1 => if r2 = 0 then (fX11_carry_24 p1 p2 p3 h1) else (bd (fX4_isA p2 (2 : Int32) h1) (fun r5 h4 => if r5 = 0 then (fX11_carry_24 p1 p2 p3 h4) else (fX11_carry_48 p1 p2 p3 h4))))
set_option maxRecDepth 100000 in
theorem tX11_carry {p1 : Int32} {p2 : Int32} {p3 : Int32} {r : Int32} {h h0 : HS} (H : fX11_carry p1 p2 p3 h = some (r, h0)) : Cn skC yX11_carry cX11_carry 5 (some .boolean) 2 [.ref 0, .int p1, .int p2, .int p3] h (some (.int r)) h0 := by
  refine Cn_of (L := [some (.ref 0), some (.int p1), some (.int p2), some (.int p3), none]) (by decide +kernel) (by simp [lg_sl, Value.category]) (fun ad => by simp [lg_sl, tv, Value.category]) (⟨rfl, ⟨rfl, ⟨rfl, ⟨rfl, trivial⟩⟩⟩⟩) ?_
  unfold fX11_carry at H
  refine j_aload_n (pc := 0) dX11_carry_0 rfl ?_
  refine j_getR (pc := 1) (b := 2) dX11_carry_1 flX11_20 rfl ?_
  refine j_iload_n (pc := 4) dX11_carry_4 rfl ?_
  refine j_iconst (pc := 5) (v := 2) dX11_carry_5 (by decide) ?_
  obtain ⟨r2, h1, eh1, H⟩ := bd_x H
  refine j_callV (pc := 6) dX11_carry_6 mlX11_295 wyX4_isA (tX4_isA eh1) (by decide) rfl rfl rfl rfl (by simp [Value.category]) rfl ?_
  refine j_if_eq (pc := 9) (tgt := 24) dX11_carry_9 (by decide) (fun c3 => ?_) (fun c3 => ?_)
  · rw [if_pos c3] at H
    refine Jx.sub (L' := [some (.ref 0), some (.int p1), some (.int p2), some (.int p3), none]) (⟨rfl, ⟨rfl, ⟨rfl, ⟨rfl, trivial⟩⟩⟩⟩) ?_
    exact jX11_carry_24 p1 p2 p3 h1 H
  · rw [if_neg c3] at H
    refine j_aload_n (pc := 12) dX11_carry_12 rfl ?_
    refine j_getR (pc := 13) (b := 2) dX11_carry_13 flX11_20 rfl ?_
    refine j_iload_n (pc := 16) dX11_carry_16 rfl ?_
    refine j_iconst (pc := 17) (v := 2) dX11_carry_17 (by decide) ?_
    obtain ⟨r5, h4, eh4, H⟩ := bd_x H
    refine j_callV (pc := 18) dX11_carry_18 mlX11_295 wyX4_isA (tX4_isA eh4) (by decide) rfl rfl rfl rfl (by simp [Value.category]) rfl ?_
    refine j_if_ne (pc := 21) (tgt := 48) dX11_carry_21 (by decide) (fun c6 => ?_) (fun c6 => ?_)
    · rw [if_neg c6] at H
      refine Jx.sub (L' := [some (.ref 0), some (.int p1), some (.int p2), some (.int p3), none]) (⟨rfl, ⟨rfl, ⟨rfl, ⟨rfl, trivial⟩⟩⟩⟩) ?_
      exact jX11_carry_48 p1 p2 p3 h4 H
    · rw [if_pos c6] at H
      refine Jx.sub (L' := [some (.ref 0), some (.int p1), some (.int p2), some (.int p3), none]) (⟨rfl, ⟨rfl, ⟨rfl, ⟨rfl, trivial⟩⟩⟩⟩) ?_
      exact jX11_carry_24 p1 p2 p3 h4 H

noncomputable def fX11_telling (h : HS) : Option (Int32 × HS) := nm ((gI h 0 5)) (fun v1_1 => nm (pI h 0 5 (0 : Int32)) (fun h2 => if (gI h2 8 3) < (6 : Int32) then (bd (fX9_read 16 v1_1 h2) (fun r5 h4 => if r5 = (-1 : Int32) then (some (((gI h4 8 3) - (1 : Int32)), h4)) else (some (((-1 : Int32) - r5), h4)))) else (some ((-100 : Int32), h2))))
set_option maxRecDepth 100000 in
theorem tX11_telling {r : Int32} {h h0 : HS} (H : fX11_telling h = some (r, h0)) : Cn skC yX11_telling cX11_telling 3 (some .int) 5 [.ref 0] h (some (.int r)) h0 := by
  refine Cn_of (L := [some (.ref 0), none, none]) (by decide +kernel) (by simp [lg_sl, Value.category]) (fun ad => by simp [lg_sl, tv, Value.category]) (⟨rfl, trivial⟩) ?_
  unfold fX11_telling at H
  refine j_aload_n (pc := 0) dX11_telling_0 rfl ?_
  refine j_getI (pc := 1) dX11_telling_1 flX11_213 rfl ?_
  obtain ⟨v1_1, ev1_1, H⟩ := nm_x H
  refine j_topi ev1_1 ?_
  refine j_istore_n (pc := 4) (L' := [some (.ref 0), some (.int v1_1), none]) dX11_telling_4 (by decide) rfl ?_
  refine j_aload_n (pc := 5) dX11_telling_5 rfl ?_
  refine j_iconst (pc := 6) (v := 0) dX11_telling_6 (by decide) ?_
  obtain ⟨h2, eh2, H⟩ := nm_x H
  refine j_putI (pc := 7) dX11_telling_7 fpX11_213 rfl h2 eh2 ?_
  refine j_aload_n (pc := 10) dX11_telling_10 rfl ?_
  refine j_getR (pc := 11) (b := 8) dX11_telling_11 flX11_63 rfl ?_
  refine j_getI (pc := 14) dX11_telling_14 flX11_354 rfl ?_
  refine j_bipush (pc := 17) (v := 6) dX11_telling_17 (by decide) ?_
  refine j_icmp_lt (pc := 19) (tgt := 25) dX11_telling_19 (by decide) (fun c3 => ?_) (fun c3 => ?_)
  · rw [if_pos c3] at H
    refine j_aload_n (pc := 25) dX11_telling_25 rfl ?_
    refine j_getR (pc := 26) (b := 8) dX11_telling_26 flX11_63 rfl ?_
    refine j_aload_n (pc := 29) dX11_telling_29 rfl ?_
    refine j_getR (pc := 30) (b := 16) dX11_telling_30 flX11_33 rfl ?_
    refine j_iload_n (pc := 33) dX11_telling_33 rfl ?_
    obtain ⟨r5, h4, eh4, H⟩ := bd_x H
    refine j_callV (pc := 34) dX11_telling_34 mlX11_355 wyX9_read (tX9_read eh4) (by decide) rfl rfl rfl rfl (by simp [Value.category]) rfl ?_
    refine j_istore_n (pc := 37) (L' := [some (.ref 0), some (.int v1_1), some (.int r5)]) dX11_telling_37 (by decide) rfl ?_
    refine j_iload_n (pc := 38) dX11_telling_38 rfl ?_
    refine j_iconst (pc := 39) (v := -1) dX11_telling_39 (by decide) ?_
    refine j_icmp_ne (pc := 40) (tgt := 55) dX11_telling_40 (by decide) (fun c6 => ?_) (fun c6 => ?_)
    · rw [if_neg c6] at H
      refine j_iconst (pc := 55) (v := -1) dX11_telling_55 (by decide) ?_
      refine j_iload_n (pc := 56) dX11_telling_56 rfl ?_
      refine j_isub (pc := 57) dX11_telling_57 ?_
      exact j_ireturn (pc := 58) dX11_telling_58 rfl (ri_1 H) (ri_2 H)
    · rw [if_pos c6] at H
      refine j_aload_n (pc := 43) dX11_telling_43 rfl ?_
      refine j_getR (pc := 44) (b := 8) dX11_telling_44 flX11_63 rfl ?_
      refine j_getI (pc := 47) dX11_telling_47 flX11_354 rfl ?_
      refine j_iconst (pc := 50) (v := 1) dX11_telling_50 (by decide) ?_
      refine j_isub (pc := 51) dX11_telling_51 ?_
      refine j_goto (pc := 52) (tgt := 58) dX11_telling_52 (by decide) ?_
      exact j_ireturn (pc := 58) dX11_telling_58 rfl (ri_1 H) (ri_2 H)
  · rw [if_neg c3] at H
    refine j_bipush (pc := 22) (v := -100) dX11_telling_22 (by decide) ?_
    exact j_ireturn (pc := 24) dX11_telling_24 rfl (ri_1 H) (ri_2 H)

noncomputable def fX11_gauge_44 (v1 : Int32) (v2 : Int32) (v3 : Int32) (v4 : Int32) (s0 : Int32) (h : HS) : Option (Int32 × HS) := if s0 = 0 then (some ((-1 : Int32), h)) else (bd (fX9_addGauge v1 v2 v3 v4 h) (fun r15 h14 => some (r15, h14)))
set_option maxRecDepth 100000 in
theorem jX11_gauge_44 {r : Int32} {h0 : HS} (v1 : Int32) (v2 : Int32) (v3 : Int32) (v4 : Int32) (s0 : Int32) (h : HS) (H : fX11_gauge_44 v1 v2 v3 v4 s0 h = some (r, h0)) : Jx skC RX11 cX11_gauge 6 (some .int) 2 (some (.int r)) h0 44 [some (.ref 0), some (.int v1), some (.int v2), some (.int v3), some (.int v4), none] [.int s0] h := by
  unfold fX11_gauge_44 at H
  refine j_istore (pc := 44) (L' := [some (.ref 0), some (.int v1), some (.int v2), some (.int v3), some (.int v4), some (.int s0)]) dX11_gauge_44 (by decide) rfl ?_
  refine j_iload (pc := 46) dX11_gauge_46 rfl ?_
  refine j_if_eq (pc := 48) (tgt := 66) dX11_gauge_48 (by decide) (fun c13 => ?_) (fun c13 => ?_)
  · rw [if_pos c13] at H
    refine j_iconst (pc := 66) (v := -1) dX11_gauge_66 (by decide) ?_
    exact j_ireturn (pc := 67) dX11_gauge_67 rfl (ri_1 H) (ri_2 H)
  · rw [if_neg c13] at H
    refine j_aload_n (pc := 51) dX11_gauge_51 rfl ?_
    refine j_getR (pc := 52) (b := 8) dX11_gauge_52 flX11_63 rfl ?_
    refine j_iload_n (pc := 55) dX11_gauge_55 rfl ?_
    refine j_iload_n (pc := 56) dX11_gauge_56 rfl ?_
    refine j_iload_n (pc := 57) dX11_gauge_57 rfl ?_
    refine j_iload (pc := 58) dX11_gauge_58 rfl ?_
    obtain ⟨r15, h14, eh14, H⟩ := bd_x H
    refine j_callV (pc := 60) dX11_gauge_60 mlX11_356 wyX9_addGauge (tX9_addGauge eh14) (by decide) rfl rfl rfl rfl (by simp [Value.category]) rfl ?_
    refine j_goto (pc := 63) (tgt := 67) dX11_gauge_63 (by decide) ?_
    exact j_ireturn (pc := 67) dX11_gauge_67 rfl (ri_1 H) (ri_2 H)
noncomputable def fX11_gauge_43 (v1 : Int32) (v2 : Int32) (v3 : Int32) (v4 : Int32) (h : HS) : Option (Int32 × HS) := fX11_gauge_44 v1 v2 v3 v4 (0 : Int32) h
set_option maxRecDepth 100000 in
theorem jX11_gauge_43 {r : Int32} {h0 : HS} (v1 : Int32) (v2 : Int32) (v3 : Int32) (v4 : Int32) (h : HS) (H : fX11_gauge_43 v1 v2 v3 v4 h = some (r, h0)) : Jx skC RX11 cX11_gauge 6 (some .int) 2 (some (.int r)) h0 43 [some (.ref 0), some (.int v1), some (.int v2), some (.int v3), some (.int v4), none] [] h := by
  unfold fX11_gauge_43 at H
  refine j_iconst (pc := 43) (v := 0) dX11_gauge_43 (by decide) ?_
  refine Jx.sub (L' := [some (.ref 0), some (.int v1), some (.int v2), some (.int v3), some (.int v4), none]) (⟨rfl, ⟨rfl, ⟨rfl, ⟨rfl, ⟨rfl, trivial⟩⟩⟩⟩⟩) ?_
  exact jX11_gauge_44 v1 v2 v3 v4 (0 : Int32) h H
noncomputable def fX11_gauge (p1 : Int32) (p2 : Int32) (p3 : Int32) (p4 : Int32) (h : HS) : Option (Int32 × HS) := bd (fX11_between p1 (0 : Int32) (200 : Int32) h) (fun r2 h1 => if r2 = 0 then (fX11_gauge_43 p1 p2 p3 p4 h1) else (bd (fX11_isDepth p2 h1) (fun r5 h4 => if r5 = 0 then (fX11_gauge_43 p1 p2 p3 p4 h4) else (bd (fX11_between p3 (0 : Int32) (2 : Int32) h4) (fun r8 h7 => if r8 = 0 then (fX11_gauge_43 p1 p2 p3 p4 h7) else (bd (fX11_between p4 (-999999 : Int32) (999999 : Int32) h7) (fun r11 h10 => if r11 = 0 then (fX11_gauge_43 p1 p2 p3 p4 h10) else (fX11_gauge_44 p1 p2 p3 p4 (1 : Int32) h10))))))))
set_option maxRecDepth 100000 in
theorem tX11_gauge {p1 : Int32} {p2 : Int32} {p3 : Int32} {p4 : Int32} {r : Int32} {h h0 : HS} (H : fX11_gauge p1 p2 p3 p4 h = some (r, h0)) : Cn skC yX11_gauge cX11_gauge 6 (some .int) 2 [.ref 0, .int p1, .int p2, .int p3, .int p4] h (some (.int r)) h0 := by
  refine Cn_of (L := [some (.ref 0), some (.int p1), some (.int p2), some (.int p3), some (.int p4), none]) (by decide +kernel) (by simp [lg_sl, Value.category]) (fun ad => by simp [lg_sl, tv, Value.category]) (⟨rfl, ⟨rfl, ⟨rfl, ⟨rfl, ⟨rfl, trivial⟩⟩⟩⟩⟩) ?_
  unfold fX11_gauge at H
  refine j_iload_n (pc := 0) dX11_gauge_0 rfl ?_
  refine j_iconst (pc := 1) (v := 0) dX11_gauge_1 (by decide) ?_
  refine j_sipush (pc := 2) (v := 200) dX11_gauge_2 (by decide) ?_
  obtain ⟨r2, h1, eh1, H⟩ := bd_x H
  refine j_callS (pc := 5) dX11_gauge_5 mlX11_81 wyX11_between (tX11_between eh1) (by decide) rfl (by simp [Value.category]) rfl ?_
  refine j_if_eq (pc := 8) (tgt := 43) dX11_gauge_8 (by decide) (fun c3 => ?_) (fun c3 => ?_)
  · rw [if_pos c3] at H
    refine Jx.sub (L' := [some (.ref 0), some (.int p1), some (.int p2), some (.int p3), some (.int p4), none]) (⟨rfl, ⟨rfl, ⟨rfl, ⟨rfl, ⟨rfl, trivial⟩⟩⟩⟩⟩) ?_
    exact jX11_gauge_43 p1 p2 p3 p4 h1 H
  · rw [if_neg c3] at H
    refine j_iload_n (pc := 11) dX11_gauge_11 rfl ?_
    obtain ⟨r5, h4, eh4, H⟩ := bd_x H
    refine j_callS (pc := 12) dX11_gauge_12 mlX11_142 wyX11_isDepth (tX11_isDepth eh4) (by decide) rfl (by simp [Value.category]) rfl ?_
    refine j_if_eq (pc := 15) (tgt := 43) dX11_gauge_15 (by decide) (fun c6 => ?_) (fun c6 => ?_)
    · rw [if_pos c6] at H
      refine Jx.sub (L' := [some (.ref 0), some (.int p1), some (.int p2), some (.int p3), some (.int p4), none]) (⟨rfl, ⟨rfl, ⟨rfl, ⟨rfl, ⟨rfl, trivial⟩⟩⟩⟩⟩) ?_
      exact jX11_gauge_43 p1 p2 p3 p4 h4 H
    · rw [if_neg c6] at H
      refine j_iload_n (pc := 18) dX11_gauge_18 rfl ?_
      refine j_iconst (pc := 19) (v := 0) dX11_gauge_19 (by decide) ?_
      refine j_iconst (pc := 20) (v := 2) dX11_gauge_20 (by decide) ?_
      obtain ⟨r8, h7, eh7, H⟩ := bd_x H
      refine j_callS (pc := 21) dX11_gauge_21 mlX11_81 wyX11_between (tX11_between eh7) (by decide) rfl (by simp [Value.category]) rfl ?_
      refine j_if_eq (pc := 24) (tgt := 43) dX11_gauge_24 (by decide) (fun c9 => ?_) (fun c9 => ?_)
      · rw [if_pos c9] at H
        refine Jx.sub (L' := [some (.ref 0), some (.int p1), some (.int p2), some (.int p3), some (.int p4), none]) (⟨rfl, ⟨rfl, ⟨rfl, ⟨rfl, ⟨rfl, trivial⟩⟩⟩⟩⟩) ?_
        exact jX11_gauge_43 p1 p2 p3 p4 h7 H
      · rw [if_neg c9] at H
        refine j_iload (pc := 27) dX11_gauge_27 rfl ?_
        refine j_ldc (pc := 29) dX11_gauge_29 wkX11_122 ?_
        refine j_ldc (pc := 31) dX11_gauge_31 wkX11_123 ?_
        obtain ⟨r11, h10, eh10, H⟩ := bd_x H
        refine j_callS (pc := 33) dX11_gauge_33 mlX11_81 wyX11_between (tX11_between eh10) (by decide) rfl (by simp [Value.category]) rfl ?_
        refine j_if_eq (pc := 36) (tgt := 43) dX11_gauge_36 (by decide) (fun c12 => ?_) (fun c12 => ?_)
        · rw [if_pos c12] at H
          refine Jx.sub (L' := [some (.ref 0), some (.int p1), some (.int p2), some (.int p3), some (.int p4), none]) (⟨rfl, ⟨rfl, ⟨rfl, ⟨rfl, ⟨rfl, trivial⟩⟩⟩⟩⟩) ?_
          exact jX11_gauge_43 p1 p2 p3 p4 h10 H
        · rw [if_neg c12] at H
          refine j_iconst (pc := 39) (v := 1) dX11_gauge_39 (by decide) ?_
          refine j_goto (pc := 40) (tgt := 44) dX11_gauge_40 (by decide) ?_
          refine Jx.sub (L' := [some (.ref 0), some (.int p1), some (.int p2), some (.int p3), some (.int p4), none]) (⟨rfl, ⟨rfl, ⟨rfl, ⟨rfl, ⟨rfl, trivial⟩⟩⟩⟩⟩) ?_
          exact jX11_gauge_44 p1 p2 p3 p4 (1 : Int32) h10 H

noncomputable def fX11_tells_50 (v1 : Int32) (v2 : Int32) (v3 : Int32) (v4 : Int32) (s0 : Int32) (h : HS) : Option (Int32 × HS) := if s0 = 0 then none else (bd (fX9_numberOf v1 v2 v3 v4 h) (fun r15 h14 => some (r15, h14)))
set_option maxRecDepth 100000 in
theorem jX11_tells_50 {r : Int32} {h0 : HS} (v1 : Int32) (v2 : Int32) (v3 : Int32) (v4 : Int32) (s0 : Int32) (h : HS) (H : fX11_tells_50 v1 v2 v3 v4 s0 h = some (r, h0)) : Jx skC RX11 cX11_tells 6 (some .int) 5 (some (.int r)) h0 50 [some (.ref 0), some (.int v1), some (.int v2), some (.int v3), some (.int v4), none] [.int s0] h := by
  unfold fX11_tells_50 at H
  refine j_istore (pc := 50) (L' := [some (.ref 0), some (.int v1), some (.int v2), some (.int v3), some (.int v4), some (.int s0)]) dX11_tells_50 (by decide) rfl ?_
  refine j_iload (pc := 52) dX11_tells_52 rfl ?_
  refine j_if_ne (pc := 54) (tgt := 68) dX11_tells_54 (by decide) (fun c13 => ?_) (fun c13 => ?_)
  · rw [if_neg c13] at H
    refine j_aload_n (pc := 68) dX11_tells_68 rfl ?_
    refine j_getR (pc := 69) (b := 8) dX11_tells_69 flX11_63 rfl ?_
    refine j_iload_n (pc := 72) dX11_tells_72 rfl ?_
    refine j_iload_n (pc := 73) dX11_tells_73 rfl ?_
    refine j_iload_n (pc := 74) dX11_tells_74 rfl ?_
    refine j_iload (pc := 75) dX11_tells_75 rfl ?_
    obtain ⟨r15, h14, eh14, H⟩ := bd_x H
    refine j_callV (pc := 77) dX11_tells_77 mlX11_362 wyX9_numberOf (tX9_numberOf eh14) (by decide) rfl rfl rfl rfl (by simp [Value.category]) rfl ?_
    exact j_ireturn (pc := 80) dX11_tells_80 rfl (ri_1 H) (ri_2 H)
  · rw [if_pos c13] at H
    cases H
noncomputable def fX11_tells_49 (v1 : Int32) (v2 : Int32) (v3 : Int32) (v4 : Int32) (h : HS) : Option (Int32 × HS) := fX11_tells_50 v1 v2 v3 v4 (0 : Int32) h
set_option maxRecDepth 100000 in
theorem jX11_tells_49 {r : Int32} {h0 : HS} (v1 : Int32) (v2 : Int32) (v3 : Int32) (v4 : Int32) (h : HS) (H : fX11_tells_49 v1 v2 v3 v4 h = some (r, h0)) : Jx skC RX11 cX11_tells 6 (some .int) 5 (some (.int r)) h0 49 [some (.ref 0), some (.int v1), some (.int v2), some (.int v3), some (.int v4), none] [] h := by
  unfold fX11_tells_49 at H
  refine j_iconst (pc := 49) (v := 0) dX11_tells_49 (by decide) ?_
  refine Jx.sub (L' := [some (.ref 0), some (.int v1), some (.int v2), some (.int v3), some (.int v4), none]) (⟨rfl, ⟨rfl, ⟨rfl, ⟨rfl, ⟨rfl, trivial⟩⟩⟩⟩⟩) ?_
  exact jX11_tells_50 v1 v2 v3 v4 (0 : Int32) h H
noncomputable def fX11_tells (p1 : Int32) (p2 : Int32) (p3 : Int32) (p4 : Int32) (h : HS) : Option (Int32 × HS) := bd (fX11_between p1 (0 : Int32) (((gI h 8 3) - (1 : Int32))) h) (fun r2 h1 => if r2 = 0 then (fX11_tells_49 p1 p2 p3 p4 h1) else (bd (fX11_between p2 (0 : Int32) (200 : Int32) h1) (fun r5 h4 => if r5 = 0 then (fX11_tells_49 p1 p2 p3 p4 h4) else (bd (fX11_isDepth p3 h4) (fun r8 h7 => if r8 = 0 then (fX11_tells_49 p1 p2 p3 p4 h7) else (bd (fX11_between p4 (0 : Int32) (2 : Int32) h7) (fun r11 h10 => if r11 = 0 then (fX11_tells_49 p1 p2 p3 p4 h10) else (fX11_tells_50 p1 p2 p3 p4 (1 : Int32) h10))))))))
set_option maxRecDepth 100000 in
theorem tX11_tells {p1 : Int32} {p2 : Int32} {p3 : Int32} {p4 : Int32} {r : Int32} {h h0 : HS} (H : fX11_tells p1 p2 p3 p4 h = some (r, h0)) : Cn skC yX11_tells cX11_tells 6 (some .int) 5 [.ref 0, .int p1, .int p2, .int p3, .int p4] h (some (.int r)) h0 := by
  refine Cn_of (L := [some (.ref 0), some (.int p1), some (.int p2), some (.int p3), some (.int p4), none]) (by decide +kernel) (by simp [lg_sl, Value.category]) (fun ad => by simp [lg_sl, tv, Value.category]) (⟨rfl, ⟨rfl, ⟨rfl, ⟨rfl, ⟨rfl, trivial⟩⟩⟩⟩⟩) ?_
  unfold fX11_tells at H
  refine j_iload_n (pc := 0) dX11_tells_0 rfl ?_
  refine j_iconst (pc := 1) (v := 0) dX11_tells_1 (by decide) ?_
  refine j_aload_n (pc := 2) dX11_tells_2 rfl ?_
  refine j_getR (pc := 3) (b := 8) dX11_tells_3 flX11_63 rfl ?_
  refine j_getI (pc := 6) dX11_tells_6 flX11_354 rfl ?_
  refine j_iconst (pc := 9) (v := 1) dX11_tells_9 (by decide) ?_
  refine j_isub (pc := 10) dX11_tells_10 ?_
  obtain ⟨r2, h1, eh1, H⟩ := bd_x H
  refine j_callS (pc := 11) dX11_tells_11 mlX11_81 wyX11_between (tX11_between eh1) (by decide) rfl (by simp [Value.category]) rfl ?_
  refine j_if_eq (pc := 14) (tgt := 49) dX11_tells_14 (by decide) (fun c3 => ?_) (fun c3 => ?_)
  · rw [if_pos c3] at H
    refine Jx.sub (L' := [some (.ref 0), some (.int p1), some (.int p2), some (.int p3), some (.int p4), none]) (⟨rfl, ⟨rfl, ⟨rfl, ⟨rfl, ⟨rfl, trivial⟩⟩⟩⟩⟩) ?_
    exact jX11_tells_49 p1 p2 p3 p4 h1 H
  · rw [if_neg c3] at H
    refine j_iload_n (pc := 17) dX11_tells_17 rfl ?_
    refine j_iconst (pc := 18) (v := 0) dX11_tells_18 (by decide) ?_
    refine j_sipush (pc := 19) (v := 200) dX11_tells_19 (by decide) ?_
    obtain ⟨r5, h4, eh4, H⟩ := bd_x H
    refine j_callS (pc := 22) dX11_tells_22 mlX11_81 wyX11_between (tX11_between eh4) (by decide) rfl (by simp [Value.category]) rfl ?_
    refine j_if_eq (pc := 25) (tgt := 49) dX11_tells_25 (by decide) (fun c6 => ?_) (fun c6 => ?_)
    · rw [if_pos c6] at H
      refine Jx.sub (L' := [some (.ref 0), some (.int p1), some (.int p2), some (.int p3), some (.int p4), none]) (⟨rfl, ⟨rfl, ⟨rfl, ⟨rfl, ⟨rfl, trivial⟩⟩⟩⟩⟩) ?_
      exact jX11_tells_49 p1 p2 p3 p4 h4 H
    · rw [if_neg c6] at H
      refine j_iload_n (pc := 28) dX11_tells_28 rfl ?_
      obtain ⟨r8, h7, eh7, H⟩ := bd_x H
      refine j_callS (pc := 29) dX11_tells_29 mlX11_142 wyX11_isDepth (tX11_isDepth eh7) (by decide) rfl (by simp [Value.category]) rfl ?_
      refine j_if_eq (pc := 32) (tgt := 49) dX11_tells_32 (by decide) (fun c9 => ?_) (fun c9 => ?_)
      · rw [if_pos c9] at H
        refine Jx.sub (L' := [some (.ref 0), some (.int p1), some (.int p2), some (.int p3), some (.int p4), none]) (⟨rfl, ⟨rfl, ⟨rfl, ⟨rfl, ⟨rfl, trivial⟩⟩⟩⟩⟩) ?_
        exact jX11_tells_49 p1 p2 p3 p4 h7 H
      · rw [if_neg c9] at H
        refine j_iload (pc := 35) dX11_tells_35 rfl ?_
        refine j_iconst (pc := 37) (v := 0) dX11_tells_37 (by decide) ?_
        refine j_iconst (pc := 38) (v := 2) dX11_tells_38 (by decide) ?_
        obtain ⟨r11, h10, eh10, H⟩ := bd_x H
        refine j_callS (pc := 39) dX11_tells_39 mlX11_81 wyX11_between (tX11_between eh10) (by decide) rfl (by simp [Value.category]) rfl ?_
        refine j_if_eq (pc := 42) (tgt := 49) dX11_tells_42 (by decide) (fun c12 => ?_) (fun c12 => ?_)
        · rw [if_pos c12] at H
          refine Jx.sub (L' := [some (.ref 0), some (.int p1), some (.int p2), some (.int p3), some (.int p4), none]) (⟨rfl, ⟨rfl, ⟨rfl, ⟨rfl, ⟨rfl, trivial⟩⟩⟩⟩⟩) ?_
          exact jX11_tells_49 p1 p2 p3 p4 h10 H
        · rw [if_neg c12] at H
          refine j_iconst (pc := 45) (v := 1) dX11_tells_45 (by decide) ?_
          refine j_goto (pc := 46) (tgt := 50) dX11_tells_46 (by decide) ?_
          refine Jx.sub (L' := [some (.ref 0), some (.int p1), some (.int p2), some (.int p3), some (.int p4), none]) (⟨rfl, ⟨rfl, ⟨rfl, ⟨rfl, ⟨rfl, trivial⟩⟩⟩⟩⟩) ?_
          exact jX11_tells_50 p1 p2 p3 p4 (1 : Int32) h10 H

noncomputable def fX11_fits_21 : Nat → Int32 → Int32 → HS → Option (Int32 × HS)
  | 0, _, _, _ => none
  | n + 1, v1, v2, h => if (gI h 8 3) ≤ v2 then (bd (fX9_fitting v1 h) (fun r7 h6 => some (r7, h6))) else (bd (fX9_farFromGauges v2 h) (fun r9 h8 => bv (fX6_add r9 h8) (fun h10 => nm (v2 + (1 : Int32)) (fun v2_11 => fX11_fits_21 n v1 v2_11 h10))))
set_option maxRecDepth 100000 in
theorem jX11_fits_21 {r : Int32} {h0 : HS} : ∀ (n : Nat) (v1 : Int32) (v2 : Int32) (h : HS), fX11_fits_21 n v1 v2 h = some (r, h0) → Jx skC RX11 cX11_fits 3 (some .int) 7 (some (.int r)) h0 21 [some (.ref 0), some (.int v1), some (.int v2)] [] h := by
  intro n
  induction n with
  | zero => intro v1 v2  h H; cases H
  | succ n ih =>
    intro v1 v2  h H
    rw [fX11_fits_21] at H
    refine j_iload_n (pc := 21) dX11_fits_21 rfl ?_
    refine j_aload_n (pc := 22) dX11_fits_22 rfl ?_
    refine j_getR (pc := 23) (b := 8) dX11_fits_23 flX11_63 rfl ?_
    refine j_getI (pc := 26) dX11_fits_26 flX11_354 rfl ?_
    refine j_icmp_ge (pc := 29) (tgt := 53) dX11_fits_29 (by decide) (fun c5 => ?_) (fun c5 => ?_)
    · rw [if_pos c5] at H
      refine j_aload_n (pc := 53) dX11_fits_53 rfl ?_
      refine j_getR (pc := 54) (b := 8) dX11_fits_54 flX11_63 rfl ?_
      refine j_iload_n (pc := 57) dX11_fits_57 rfl ?_
      obtain ⟨r7, h6, eh6, H⟩ := bd_x H
      refine j_callV (pc := 58) dX11_fits_58 mlX11_368 wyX9_fitting (tX9_fitting eh6) (by decide) rfl rfl rfl rfl (by simp [Value.category]) rfl ?_
      exact j_ireturn (pc := 61) dX11_fits_61 rfl (ri_1 H) (ri_2 H)
    · rw [if_neg c5] at H
      refine j_aload_n (pc := 32) dX11_fits_32 rfl ?_
      refine j_getR (pc := 33) (b := 4) dX11_fits_33 flX11_29 rfl ?_
      refine j_aload_n (pc := 36) dX11_fits_36 rfl ?_
      refine j_getR (pc := 37) (b := 8) dX11_fits_37 flX11_63 rfl ?_
      refine j_iload_n (pc := 40) dX11_fits_40 rfl ?_
      obtain ⟨r9, h8, eh8, H⟩ := bd_x H
      refine j_callV (pc := 41) dX11_fits_41 mlX11_365 wyX9_farFromGauges (tX9_farFromGauges eh8) (by decide) rfl rfl rfl rfl (by simp [Value.category]) rfl ?_
      obtain ⟨h10, eh10, H⟩ := bv_x H
      refine j_callV (pc := 44) dX11_fits_44 mlX11_210 wyX6_add (tX6_add eh10) (by decide) rfl rfl rfl rfl (by simp [Value.category]) rfl ?_
      obtain ⟨v2_11, ev2_11, H⟩ := nm_x H
      refine j_iinc (pc := 47) (L' := [some (.ref 0), some (.int v1), some (.int v2_11)]) (w := 1) dX11_fits_47 rfl (by decide) (by decide) v2_11 ev2_11 rfl ?_
      refine j_goto (pc := 50) (tgt := 21) dX11_fits_50 (by decide) ?_
      refine Jx.sub (L' := [some (.ref 0), some (.int v1), some (.int v2_11)]) (⟨rfl, ⟨rfl, ⟨rfl, trivial⟩⟩⟩) ?_
      exact ih v1 v2_11 h10 H
noncomputable def fX11_fits (p1 : Int32) (h : HS) : Option (Int32 × HS) := bd (fX11_between p1 (0 : Int32) (99 : Int32) h) (fun r2 h1 => if r2 = 0 then (some ((-1 : Int32), h1)) else (bv (fX6_empty h1) (fun h4 => fX11_fits_21 FU p1 (0 : Int32) h4)))
set_option maxRecDepth 100000 in
theorem tX11_fits {p1 : Int32} {r : Int32} {h h0 : HS} (H : fX11_fits p1 h = some (r, h0)) : Cn skC yX11_fits cX11_fits 3 (some .int) 7 [.ref 0, .int p1] h (some (.int r)) h0 := by
  refine Cn_of (L := [some (.ref 0), some (.int p1), none]) (by decide +kernel) (by simp [lg_sl, Value.category]) (fun ad => by simp [lg_sl, tv, Value.category]) (⟨rfl, ⟨rfl, trivial⟩⟩) ?_
  unfold fX11_fits at H
  refine j_iload_n (pc := 0) dX11_fits_0 rfl ?_
  refine j_iconst (pc := 1) (v := 0) dX11_fits_1 (by decide) ?_
  refine j_bipush (pc := 2) (v := 99) dX11_fits_2 (by decide) ?_
  obtain ⟨r2, h1, eh1, H⟩ := bd_x H
  refine j_callS (pc := 4) dX11_fits_4 mlX11_81 wyX11_between (tX11_between eh1) (by decide) rfl (by simp [Value.category]) rfl ?_
  refine j_if_ne (pc := 7) (tgt := 12) dX11_fits_7 (by decide) (fun c3 => ?_) (fun c3 => ?_)
  · rw [if_neg c3] at H
    refine j_aload_n (pc := 12) dX11_fits_12 rfl ?_
    refine j_getR (pc := 13) (b := 4) dX11_fits_13 flX11_29 rfl ?_
    obtain ⟨h4, eh4, H⟩ := bv_x H
    refine j_callV (pc := 16) dX11_fits_16 mlX11_207 wyX6_empty (tX6_empty eh4) (by decide) rfl rfl rfl rfl (by simp [Value.category]) rfl ?_
    refine j_iconst (pc := 19) (v := 0) dX11_fits_19 (by decide) ?_
    refine j_istore_n (pc := 20) (L' := [some (.ref 0), some (.int p1), some (.int (0 : Int32))]) dX11_fits_20 (by decide) rfl ?_
    refine Jx.sub (L' := [some (.ref 0), some (.int p1), some (.int (0 : Int32))]) (⟨rfl, ⟨rfl, ⟨rfl, trivial⟩⟩⟩) ?_
    exact jX11_fits_21 FU p1 (0 : Int32) h4 H
  · rw [if_pos c3] at H
    refine j_iconst (pc := 10) (v := -1) dX11_fits_10 (by decide) ?_
    exact j_ireturn (pc := 11) dX11_fits_11 rfl (ri_1 H) (ri_2 H)

noncomputable def fX11_look_62 (k52 : Int32 → Int32 → Int32 → Int32 → Int32 → Int32 → HS → Option (Int32 × HS)) : Nat → Int32 → Int32 → Int32 → Int32 → Int32 → Int32 → Int32 → HS → Option (Int32 × HS)
  | 0, _, _, _, _, _, _, _, _ => none
  | n + 1, v1, v3, v4, v5, v6, v7, v8, h => if (2 : Int32) < v8 then (nm (v7 + (1 : Int32)) (fun v7_17 => k52 v1 v3 v4 v5 v6 v7_17 h)) else (bd (fX9_mostTogether v3 v1 v7 v8 h) (fun r19 h18 => if v4 ≤ r19 then (nm (v8 + (1 : Int32)) (fun v8_21 => fX11_look_62 k52 n v1 v3 v4 v5 v6 v7 v8_21 h18)) else (nm (v8 + (1 : Int32)) (fun v8_22 => fX11_look_62 k52 n v1 v3 r19 v7 v8 v7 v8_22 h18))))
set_option maxRecDepth 100000 in
theorem jX11_look_62 {r : Int32} {h0 : HS} (k52 : Int32 → Int32 → Int32 → Int32 → Int32 → Int32 → HS → Option (Int32 × HS)) (hk52 : ∀ (v1 : Int32) (v3 : Int32) (v4 : Int32) (v5 : Int32) (v6 : Int32) (v7 : Int32) (h : HS), k52 v1 v3 v4 v5 v6 v7 h = some (r, h0) → Jx skC RX11 cX11_look 10 (some .int) 7 (some (.int r)) h0 52 [some (.ref 0), some (.int v1), none, some (.int v3), some (.int v4), some (.int v5), some (.int v6), some (.int v7), none, none] [] h) : ∀ (n : Nat) (v1 : Int32) (v3 : Int32) (v4 : Int32) (v5 : Int32) (v6 : Int32) (v7 : Int32) (v8 : Int32) (h : HS), fX11_look_62 k52 n v1 v3 v4 v5 v6 v7 v8 h = some (r, h0) → Jx skC RX11 cX11_look 10 (some .int) 7 (some (.int r)) h0 62 [some (.ref 0), some (.int v1), none, some (.int v3), some (.int v4), some (.int v5), some (.int v6), some (.int v7), some (.int v8), none] [] h := by
  intro n
  induction n with
  | zero => intro v1 v3 v4 v5 v6 v7 v8  h H; cases H
  | succ n ih =>
    intro v1 v3 v4 v5 v6 v7 v8  h H
    rw [fX11_look_62] at H
    refine j_iload (pc := 62) dX11_look_62 rfl ?_
    refine j_iconst (pc := 64) (v := 2) dX11_look_64 (by decide) ?_
    refine j_icmp_gt (pc := 65) (tgt := 108) dX11_look_65 (by decide) (fun c16 => ?_) (fun c16 => ?_)
    · rw [if_pos c16] at H
      obtain ⟨v7_17, ev7_17, H⟩ := nm_x H
      refine j_iinc (pc := 108) (L' := [some (.ref 0), some (.int v1), none, some (.int v3), some (.int v4), some (.int v5), some (.int v6), some (.int v7_17), some (.int v8), none]) (w := 1) dX11_look_108 rfl (by decide) (by decide) v7_17 ev7_17 rfl ?_
      refine j_goto (pc := 111) (tgt := 52) dX11_look_111 (by decide) ?_
      refine Jx.sub (L' := [some (.ref 0), some (.int v1), none, some (.int v3), some (.int v4), some (.int v5), some (.int v6), some (.int v7_17), none, none]) (⟨rfl, ⟨rfl, ⟨rfl, ⟨rfl, ⟨rfl, ⟨rfl, ⟨rfl, trivial⟩⟩⟩⟩⟩⟩⟩) ?_
      exact hk52 v1 v3 v4 v5 v6 v7_17 h H
    · rw [if_neg c16] at H
      refine j_aload_n (pc := 68) dX11_look_68 rfl ?_
      refine j_getR (pc := 69) (b := 8) dX11_look_69 flX11_63 rfl ?_
      refine j_iload_n (pc := 72) dX11_look_72 rfl ?_
      refine j_iload_n (pc := 73) dX11_look_73 rfl ?_
      refine j_iload (pc := 74) dX11_look_74 rfl ?_
      refine j_iload (pc := 76) dX11_look_76 rfl ?_
      obtain ⟨r19, h18, eh18, H⟩ := bd_x H
      refine j_callV (pc := 78) dX11_look_78 mlX11_376 wyX9_mostTogether (tX9_mostTogether eh18) (by decide) rfl rfl rfl rfl (by simp [Value.category]) rfl ?_
      refine j_istore (pc := 81) (L' := [some (.ref 0), some (.int v1), none, some (.int v3), some (.int v4), some (.int v5), some (.int v6), some (.int v7), some (.int v8), some (.int r19)]) dX11_look_81 (by decide) rfl ?_
      refine j_iload (pc := 83) dX11_look_83 rfl ?_
      refine j_iload (pc := 85) dX11_look_85 rfl ?_
      refine j_icmp_ge (pc := 87) (tgt := 102) dX11_look_87 (by decide) (fun c20 => ?_) (fun c20 => ?_)
      · rw [if_pos c20] at H
        obtain ⟨v8_21, ev8_21, H⟩ := nm_x H
        refine j_iinc (pc := 102) (L' := [some (.ref 0), some (.int v1), none, some (.int v3), some (.int v4), some (.int v5), some (.int v6), some (.int v7), some (.int v8_21), some (.int r19)]) (w := 1) dX11_look_102 rfl (by decide) (by decide) v8_21 ev8_21 rfl ?_
        refine j_goto (pc := 105) (tgt := 62) dX11_look_105 (by decide) ?_
        refine Jx.sub (L' := [some (.ref 0), some (.int v1), none, some (.int v3), some (.int v4), some (.int v5), some (.int v6), some (.int v7), some (.int v8_21), none]) (⟨rfl, ⟨rfl, ⟨rfl, ⟨rfl, ⟨rfl, ⟨rfl, ⟨rfl, ⟨rfl, trivial⟩⟩⟩⟩⟩⟩⟩⟩) ?_
        exact ih v1 v3 v4 v5 v6 v7 v8_21 h18 H
      · rw [if_neg c20] at H
        refine j_iload (pc := 90) dX11_look_90 rfl ?_
        refine j_istore (pc := 92) (L' := [some (.ref 0), some (.int v1), none, some (.int v3), some (.int r19), some (.int v5), some (.int v6), some (.int v7), some (.int v8), some (.int r19)]) dX11_look_92 (by decide) rfl ?_
        refine j_iload (pc := 94) dX11_look_94 rfl ?_
        refine j_istore (pc := 96) (L' := [some (.ref 0), some (.int v1), none, some (.int v3), some (.int r19), some (.int v7), some (.int v6), some (.int v7), some (.int v8), some (.int r19)]) dX11_look_96 (by decide) rfl ?_
        refine j_iload (pc := 98) dX11_look_98 rfl ?_
        refine j_istore (pc := 100) (L' := [some (.ref 0), some (.int v1), none, some (.int v3), some (.int r19), some (.int v7), some (.int v8), some (.int v7), some (.int v8), some (.int r19)]) dX11_look_100 (by decide) rfl ?_
        obtain ⟨v8_22, ev8_22, H⟩ := nm_x H
        refine j_iinc (pc := 102) (L' := [some (.ref 0), some (.int v1), none, some (.int v3), some (.int r19), some (.int v7), some (.int v8), some (.int v7), some (.int v8_22), some (.int r19)]) (w := 1) dX11_look_102 rfl (by decide) (by decide) v8_22 ev8_22 rfl ?_
        refine j_goto (pc := 105) (tgt := 62) dX11_look_105 (by decide) ?_
        refine Jx.sub (L' := [some (.ref 0), some (.int v1), none, some (.int v3), some (.int r19), some (.int v7), some (.int v8), some (.int v7), some (.int v8_22), none]) (⟨rfl, ⟨rfl, ⟨rfl, ⟨rfl, ⟨rfl, ⟨rfl, ⟨rfl, ⟨rfl, trivial⟩⟩⟩⟩⟩⟩⟩⟩) ?_
        exact ih v1 v3 r19 v7 v8 v7 v8_22 h18 H
noncomputable def fX11_look_52 : Nat → Int32 → Int32 → Int32 → Int32 → Int32 → Int32 → HS → Option (Int32 × HS)
  | 0, _, _, _, _, _, _, _ => none
  | n + 1, v1, v3, v4, v5, v6, v7, h => if (24 : Int32) < v7 then (bv (fX6_empty h) (fun h13 => bv (fX6_add v5 h13) (fun h14 => bv (fX6_add v6 h14) (fun h15 => some (v4, h15))))) else (fX11_look_62 (fX11_look_52 n) FU v1 v3 v4 v5 v6 v7 (0 : Int32) h)
set_option maxRecDepth 100000 in
theorem jX11_look_52 {r : Int32} {h0 : HS} : ∀ (n : Nat) (v1 : Int32) (v3 : Int32) (v4 : Int32) (v5 : Int32) (v6 : Int32) (v7 : Int32) (h : HS), fX11_look_52 n v1 v3 v4 v5 v6 v7 h = some (r, h0) → Jx skC RX11 cX11_look 10 (some .int) 7 (some (.int r)) h0 52 [some (.ref 0), some (.int v1), none, some (.int v3), some (.int v4), some (.int v5), some (.int v6), some (.int v7), none, none] [] h := by
  intro n
  induction n with
  | zero => intro v1 v3 v4 v5 v6 v7  h H; cases H
  | succ n ih =>
    intro v1 v3 v4 v5 v6 v7  h H
    rw [fX11_look_52] at H
    refine j_iload (pc := 52) dX11_look_52 rfl ?_
    refine j_bipush (pc := 54) (v := 24) dX11_look_54 (by decide) ?_
    refine j_icmp_gt (pc := 56) (tgt := 114) dX11_look_56 (by decide) (fun c12 => ?_) (fun c12 => ?_)
    · rw [if_pos c12] at H
      refine j_aload_n (pc := 114) dX11_look_114 rfl ?_
      refine j_getR (pc := 115) (b := 4) dX11_look_115 flX11_29 rfl ?_
      obtain ⟨h13, eh13, H⟩ := bv_x H
      refine j_callV (pc := 118) dX11_look_118 mlX11_207 wyX6_empty (tX6_empty eh13) (by decide) rfl rfl rfl rfl (by simp [Value.category]) rfl ?_
      refine j_aload_n (pc := 121) dX11_look_121 rfl ?_
      refine j_getR (pc := 122) (b := 4) dX11_look_122 flX11_29 rfl ?_
      refine j_iload (pc := 125) dX11_look_125 rfl ?_
      obtain ⟨h14, eh14, H⟩ := bv_x H
      refine j_callV (pc := 127) dX11_look_127 mlX11_210 wyX6_add (tX6_add eh14) (by decide) rfl rfl rfl rfl (by simp [Value.category]) rfl ?_
      refine j_aload_n (pc := 130) dX11_look_130 rfl ?_
      refine j_getR (pc := 131) (b := 4) dX11_look_131 flX11_29 rfl ?_
      refine j_iload (pc := 134) dX11_look_134 rfl ?_
      obtain ⟨h15, eh15, H⟩ := bv_x H
      refine j_callV (pc := 136) dX11_look_136 mlX11_210 wyX6_add (tX6_add eh15) (by decide) rfl rfl rfl rfl (by simp [Value.category]) rfl ?_
      refine j_iload (pc := 139) dX11_look_139 rfl ?_
      exact j_ireturn (pc := 141) dX11_look_141 rfl (ri_1 H) (ri_2 H)
    · rw [if_neg c12] at H
      refine j_iconst (pc := 59) (v := 0) dX11_look_59 (by decide) ?_
      refine j_istore (pc := 60) (L' := [some (.ref 0), some (.int v1), none, some (.int v3), some (.int v4), some (.int v5), some (.int v6), some (.int v7), some (.int (0 : Int32)), none]) dX11_look_60 (by decide) rfl ?_
      refine Jx.sub (L' := [some (.ref 0), some (.int v1), none, some (.int v3), some (.int v4), some (.int v5), some (.int v6), some (.int v7), some (.int (0 : Int32)), none]) (⟨rfl, ⟨rfl, ⟨rfl, ⟨rfl, ⟨rfl, ⟨rfl, ⟨rfl, ⟨rfl, trivial⟩⟩⟩⟩⟩⟩⟩⟩) ?_
      exact jX11_look_62 _ ih FU v1 v3 v4 v5 v6 v7 (0 : Int32) h H
noncomputable def fX11_look (p1 : Int32) (p2 : Int32) (h : HS) : Option (Int32 × HS) := bd (fX11_between p1 (0 : Int32) (99 : Int32) h) (fun r2 h1 => if r2 = 0 then (some ((-1 : Int32), h1)) else (bd (fX11_isDepth p2 h1) (fun r5 h4 => if r5 = 0 then (some ((-1 : Int32), h4)) else (bd (fX9_fitting p1 h4) (fun r8 h7 => bd (fJ6_bitCount_0f7a4 r8 h7) (fun r10 h9 => if (2 : Int32) ≤ r10 then (fX11_look_52 FU p1 r8 (7 : Int32) (0 : Int32) (0 : Int32) (0 : Int32) h9) else (some ((-2 : Int32), h9))))))))
set_option maxRecDepth 100000 in
theorem tX11_look {p1 : Int32} {p2 : Int32} {r : Int32} {h h0 : HS} (H : fX11_look p1 p2 h = some (r, h0)) : Cn skC yX11_look cX11_look 10 (some .int) 7 [.ref 0, .int p1, .int p2] h (some (.int r)) h0 := by
  refine Cn_of (L := [some (.ref 0), some (.int p1), some (.int p2), none, none, none, none, none, none, none]) (by decide +kernel) (by simp [lg_sl, Value.category]) (fun ad => by simp [lg_sl, tv, Value.category]) (⟨rfl, ⟨rfl, ⟨rfl, trivial⟩⟩⟩) ?_
  unfold fX11_look at H
  refine j_iload_n (pc := 0) dX11_look_0 rfl ?_
  refine j_iconst (pc := 1) (v := 0) dX11_look_1 (by decide) ?_
  refine j_bipush (pc := 2) (v := 99) dX11_look_2 (by decide) ?_
  obtain ⟨r2, h1, eh1, H⟩ := bd_x H
  refine j_callS (pc := 4) dX11_look_4 mlX11_81 wyX11_between (tX11_between eh1) (by decide) rfl (by simp [Value.category]) rfl ?_
  refine j_if_eq (pc := 7) (tgt := 17) dX11_look_7 (by decide) (fun c3 => ?_) (fun c3 => ?_)
  · rw [if_pos c3] at H
    refine j_iconst (pc := 17) (v := -1) dX11_look_17 (by decide) ?_
    exact j_ireturn (pc := 18) dX11_look_18 rfl (ri_1 H) (ri_2 H)
  · rw [if_neg c3] at H
    refine j_iload_n (pc := 10) dX11_look_10 rfl ?_
    obtain ⟨r5, h4, eh4, H⟩ := bd_x H
    refine j_callS (pc := 11) dX11_look_11 mlX11_142 wyX11_isDepth (tX11_isDepth eh4) (by decide) rfl (by simp [Value.category]) rfl ?_
    refine j_if_ne (pc := 14) (tgt := 19) dX11_look_14 (by decide) (fun c6 => ?_) (fun c6 => ?_)
    · rw [if_neg c6] at H
      refine j_aload_n (pc := 19) dX11_look_19 rfl ?_
      refine j_getR (pc := 20) (b := 8) dX11_look_20 flX11_63 rfl ?_
      refine j_iload_n (pc := 23) dX11_look_23 rfl ?_
      obtain ⟨r8, h7, eh7, H⟩ := bd_x H
      refine j_callV (pc := 24) dX11_look_24 mlX11_368 wyX9_fitting (tX9_fitting eh7) (by decide) rfl rfl rfl rfl (by simp [Value.category]) rfl ?_
      refine j_istore_n (pc := 27) (L' := [some (.ref 0), some (.int p1), some (.int p2), some (.int r8), none, none, none, none, none, none]) dX11_look_27 (by decide) rfl ?_
      refine j_iload_n (pc := 28) dX11_look_28 rfl ?_
      obtain ⟨r10, h9, eh9, H⟩ := bd_x H
      refine j_callS (pc := 29) dX11_look_29 mlX11_371 wyJ6_bitCount_0f7a4 (tJ6_bitCount_0f7a4 eh9) (by decide) rfl (by simp [Value.category]) rfl ?_
      refine j_iconst (pc := 32) (v := 2) dX11_look_32 (by decide) ?_
      refine j_icmp_ge (pc := 33) (tgt := 39) dX11_look_33 (by decide) (fun c11 => ?_) (fun c11 => ?_)
      · rw [if_pos c11] at H
        refine j_bipush (pc := 39) (v := 7) dX11_look_39 (by decide) ?_
        refine j_istore (pc := 41) (L' := [some (.ref 0), some (.int p1), some (.int p2), some (.int r8), some (.int (7 : Int32)), none, none, none, none, none]) dX11_look_41 (by decide) rfl ?_
        refine j_iconst (pc := 43) (v := 0) dX11_look_43 (by decide) ?_
        refine j_istore (pc := 44) (L' := [some (.ref 0), some (.int p1), some (.int p2), some (.int r8), some (.int (7 : Int32)), some (.int (0 : Int32)), none, none, none, none]) dX11_look_44 (by decide) rfl ?_
        refine j_iconst (pc := 46) (v := 0) dX11_look_46 (by decide) ?_
        refine j_istore (pc := 47) (L' := [some (.ref 0), some (.int p1), some (.int p2), some (.int r8), some (.int (7 : Int32)), some (.int (0 : Int32)), some (.int (0 : Int32)), none, none, none]) dX11_look_47 (by decide) rfl ?_
        refine j_iconst (pc := 49) (v := 0) dX11_look_49 (by decide) ?_
        refine j_istore (pc := 50) (L' := [some (.ref 0), some (.int p1), some (.int p2), some (.int r8), some (.int (7 : Int32)), some (.int (0 : Int32)), some (.int (0 : Int32)), some (.int (0 : Int32)), none, none]) dX11_look_50 (by decide) rfl ?_
        refine Jx.sub (L' := [some (.ref 0), some (.int p1), none, some (.int r8), some (.int (7 : Int32)), some (.int (0 : Int32)), some (.int (0 : Int32)), some (.int (0 : Int32)), none, none]) (⟨rfl, ⟨rfl, ⟨rfl, ⟨rfl, ⟨rfl, ⟨rfl, ⟨rfl, trivial⟩⟩⟩⟩⟩⟩⟩) ?_
        exact jX11_look_52 FU p1 r8 (7 : Int32) (0 : Int32) (0 : Int32) (0 : Int32) h9 H
      · rw [if_neg c11] at H
        refine j_bipush (pc := 36) (v := -2) dX11_look_36 (by decide) ?_
        exact j_ireturn (pc := 38) dX11_look_38 rfl (ri_1 H) (ri_2 H)
    · rw [if_pos c6] at H
      refine j_iconst (pc := 17) (v := -1) dX11_look_17 (by decide) ?_
      exact j_ireturn (pc := 18) dX11_look_18 rfl (ri_1 H) (ri_2 H)

noncomputable def fX11_air (p1 : Int32) (h : HS) : Option (Int32 × HS) := bd (fX11_between p1 (0 : Int32) (99999 : Int32) h) (fun r2 h1 => if r2 = 0 then (some ((-1 : Int32), h1)) else (nm ((gI h1 1 6)) (fun v2_4 => nm (pI h1 1 6 p1) (fun h5 => some (v2_4, h5)))))
set_option maxRecDepth 100000 in
theorem tX11_air {p1 : Int32} {r : Int32} {h h0 : HS} (H : fX11_air p1 h = some (r, h0)) : Cn skC yX11_air cX11_air 3 (some .int) 1 [.ref 0, .int p1] h (some (.int r)) h0 := by
  refine Cn_of (L := [some (.ref 0), some (.int p1), none]) (by decide +kernel) (by simp [lg_sl, Value.category]) (fun ad => by simp [lg_sl, tv, Value.category]) (⟨rfl, ⟨rfl, trivial⟩⟩) ?_
  unfold fX11_air at H
  refine j_iload_n (pc := 0) dX11_air_0 rfl ?_
  refine j_iconst (pc := 1) (v := 0) dX11_air_1 (by decide) ?_
  refine j_ldc (pc := 2) dX11_air_2 wkX11_121 ?_
  obtain ⟨r2, h1, eh1, H⟩ := bd_x H
  refine j_callS (pc := 4) dX11_air_4 mlX11_81 wyX11_between (tX11_between eh1) (by decide) rfl (by simp [Value.category]) rfl ?_
  refine j_if_ne (pc := 7) (tgt := 12) dX11_air_7 (by decide) (fun c3 => ?_) (fun c3 => ?_)
  · rw [if_neg c3] at H
    refine j_aload_n (pc := 12) dX11_air_12 rfl ?_
    refine j_getR (pc := 13) (b := 1) dX11_air_13 flX11_10 rfl ?_
    refine j_getI (pc := 16) dX11_air_16 flX11_379 rfl ?_
    obtain ⟨v2_4, ev2_4, H⟩ := nm_x H
    refine j_topi ev2_4 ?_
    refine j_istore_n (pc := 19) (L' := [some (.ref 0), some (.int p1), some (.int v2_4)]) dX11_air_19 (by decide) rfl ?_
    refine j_aload_n (pc := 20) dX11_air_20 rfl ?_
    refine j_getR (pc := 21) (b := 1) dX11_air_21 flX11_10 rfl ?_
    refine j_iload_n (pc := 24) dX11_air_24 rfl ?_
    obtain ⟨h5, eh5, H⟩ := nm_x H
    refine j_putI (pc := 25) dX11_air_25 fpX11_379 rfl h5 eh5 ?_
    refine j_iload_n (pc := 28) dX11_air_28 rfl ?_
    exact j_ireturn (pc := 29) dX11_air_29 rfl (ri_1 H) (ri_2 H)
  · rw [if_pos c3] at H
    refine j_iconst (pc := 10) (v := -1) dX11_air_10 (by decide) ?_
    exact j_ireturn (pc := 11) dX11_air_11 rfl (ri_1 H) (ri_2 H)

noncomputable def fX11_airFor (p1 : Int32) (p2 : Int32) (h : HS) : Option (Int32 × HS) := some ((((p1 * (p2 + (10 : Int32))) + (9 : Int32)) / (10 : Int32)), h)
set_option maxRecDepth 100000 in
theorem tX11_airFor {p1 : Int32} {p2 : Int32} {r : Int32} {h h0 : HS} (H : fX11_airFor p1 p2 h = some (r, h0)) : Cn skC yX11_airFor cX11_airFor 2 (some .int) 0 [.int p1, .int p2] h (some (.int r)) h0 := by
  refine Cn_of (L := [some (.int p1), some (.int p2)]) (by decide +kernel) (by simp [lg_sl, Value.category]) (fun ad => by simp [lg_sl, tv, Value.category]) (⟨rfl, ⟨rfl, trivial⟩⟩) ?_
  unfold fX11_airFor at H
  refine j_iload_n (pc := 0) dX11_airFor_0 rfl ?_
  refine j_iload_n (pc := 1) dX11_airFor_1 rfl ?_
  refine j_bipush (pc := 2) (v := 10) dX11_airFor_2 (by decide) ?_
  refine j_iadd (pc := 4) dX11_airFor_4 ?_
  refine j_imul (pc := 5) dX11_airFor_5 ?_
  refine j_bipush (pc := 6) (v := 9) dX11_airFor_6 (by decide) ?_
  refine j_iadd (pc := 8) dX11_airFor_8 ?_
  refine j_bipush (pc := 9) (v := 10) dX11_airFor_9 (by decide) ?_
  refine j_idiv (pc := 11) dX11_airFor_11 (by decide) ?_
  exact j_ireturn (pc := 12) dX11_airFor_12 rfl (ri_1 H) (ri_2 H)

noncomputable def fX11_blow (p1 : Int32) (p2 : Int32) (h : HS) : Option (Int32 × HS) := bd (fX4_isA p1 (0 : Int32) h) (fun r2 h1 => if r2 = 0 then (some ((-1 : Int32), h1)) else (bd (fX11_isDepth p2 h1) (fun r5 h4 => if r5 = 0 then (some ((-1 : Int32), h4)) else (ck (inb p1 15) (bd (fX11_airFor ((gI h4 30 p1.toNatClampNeg)) p2 h4) (fun r9 h8 => if r9 ≤ (gI h8 1 6) then (ck (inb p1 15) (nm (pI h8 30 p1.toNatClampNeg (0 : Int32)) (fun h11 => nm (pI h11 1 6 ((gI h11 1 6) - r9)) (fun h13 => some ((gI h13 1 6), h13))))) else (some ((-2 : Int32), h8))))))))
set_option maxRecDepth 100000 in
theorem tX11_blow {p1 : Int32} {p2 : Int32} {r : Int32} {h h0 : HS} (H : fX11_blow p1 p2 h = some (r, h0)) : Cn skC yX11_blow cX11_blow 4 (some .int) 2 [.ref 0, .int p1, .int p2] h (some (.int r)) h0 := by
  refine Cn_of (L := [some (.ref 0), some (.int p1), some (.int p2), none]) (by decide +kernel) (by simp [lg_sl, Value.category]) (fun ad => by simp [lg_sl, tv, Value.category]) (⟨rfl, ⟨rfl, ⟨rfl, trivial⟩⟩⟩) ?_
  unfold fX11_blow at H
  refine j_aload_n (pc := 0) dX11_blow_0 rfl ?_
  refine j_getR (pc := 1) (b := 2) dX11_blow_1 flX11_20 rfl ?_
  refine j_iload_n (pc := 4) dX11_blow_4 rfl ?_
  refine j_iconst (pc := 5) (v := 0) dX11_blow_5 (by decide) ?_
  obtain ⟨r2, h1, eh1, H⟩ := bd_x H
  refine j_callV (pc := 6) dX11_blow_6 mlX11_295 wyX4_isA (tX4_isA eh1) (by decide) rfl rfl rfl rfl (by simp [Value.category]) rfl ?_
  refine j_if_eq (pc := 9) (tgt := 19) dX11_blow_9 (by decide) (fun c3 => ?_) (fun c3 => ?_)
  · rw [if_pos c3] at H
    refine j_iconst (pc := 19) (v := -1) dX11_blow_19 (by decide) ?_
    exact j_ireturn (pc := 20) dX11_blow_20 rfl (ri_1 H) (ri_2 H)
  · rw [if_neg c3] at H
    refine j_iload_n (pc := 12) dX11_blow_12 rfl ?_
    obtain ⟨r5, h4, eh4, H⟩ := bd_x H
    refine j_callS (pc := 13) dX11_blow_13 mlX11_142 wyX11_isDepth (tX11_isDepth eh4) (by decide) rfl (by simp [Value.category]) rfl ?_
    refine j_if_ne (pc := 16) (tgt := 21) dX11_blow_16 (by decide) (fun c6 => ?_) (fun c6 => ?_)
    · rw [if_neg c6] at H
      refine j_aload_n (pc := 21) dX11_blow_21 rfl ?_
      refine j_getR (pc := 22) (b := 2) dX11_blow_22 flX11_20 rfl ?_
      refine j_getR (pc := 25) (b := 30) dX11_blow_25 flX11_98 rfl ?_
      refine j_iload_n (pc := 28) dX11_blow_28 rfl ?_
      obtain ⟨b7, H⟩ := ck_x H
      refine j_iaload (pc := 29) dX11_blow_29 rfl b7 rfl ?_
      refine j_iload_n (pc := 30) dX11_blow_30 rfl ?_
      obtain ⟨r9, h8, eh8, H⟩ := bd_x H
      refine j_callS (pc := 31) dX11_blow_31 mlX11_382 wyX11_airFor (tX11_airFor eh8) (by decide) rfl (by simp [Value.category]) rfl ?_
      refine j_istore_n (pc := 34) (L' := [some (.ref 0), some (.int p1), some (.int p2), some (.int r9)]) dX11_blow_34 (by decide) rfl ?_
      refine j_iload_n (pc := 35) dX11_blow_35 rfl ?_
      refine j_aload_n (pc := 36) dX11_blow_36 rfl ?_
      refine j_getR (pc := 37) (b := 1) dX11_blow_37 flX11_10 rfl ?_
      refine j_getI (pc := 40) dX11_blow_40 flX11_379 rfl ?_
      refine j_icmp_le (pc := 43) (tgt := 49) dX11_blow_43 (by decide) (fun c10 => ?_) (fun c10 => ?_)
      · rw [if_pos c10] at H
        refine j_aload_n (pc := 49) dX11_blow_49 rfl ?_
        refine j_getR (pc := 50) (b := 2) dX11_blow_50 flX11_20 rfl ?_
        refine j_getR (pc := 53) (b := 30) dX11_blow_53 flX11_98 rfl ?_
        refine j_iload_n (pc := 56) dX11_blow_56 rfl ?_
        refine j_iconst (pc := 57) (v := 0) dX11_blow_57 (by decide) ?_
        obtain ⟨b12, H⟩ := ck_x H
        obtain ⟨h11, eh11, H⟩ := nm_x H
        refine j_iastore (pc := 58) dX11_blow_58 rfl b12 rfl h11 eh11 ?_
        refine j_aload_n (pc := 59) dX11_blow_59 rfl ?_
        refine j_getR (pc := 60) (b := 1) dX11_blow_60 flX11_10 rfl ?_
        refine j_dup (pc := 63) dX11_blow_63 rfl ?_
        refine j_getI (pc := 64) dX11_blow_64 flX11_379 rfl ?_
        refine j_iload_n (pc := 67) dX11_blow_67 rfl ?_
        refine j_isub (pc := 68) dX11_blow_68 ?_
        obtain ⟨h13, eh13, H⟩ := nm_x H
        refine j_putI (pc := 69) dX11_blow_69 fpX11_379 rfl h13 eh13 ?_
        refine j_aload_n (pc := 72) dX11_blow_72 rfl ?_
        refine j_getR (pc := 73) (b := 1) dX11_blow_73 flX11_10 rfl ?_
        refine j_getI (pc := 76) dX11_blow_76 flX11_379 rfl ?_
        exact j_ireturn (pc := 79) dX11_blow_79 rfl (ri_1 H) (ri_2 H)
      · rw [if_neg c10] at H
        refine j_bipush (pc := 46) (v := -2) dX11_blow_46 (by decide) ?_
        exact j_ireturn (pc := 48) dX11_blow_48 rfl (ri_1 H) (ri_2 H)
    · rw [if_pos c6] at H
      refine j_iconst (pc := 19) (v := -1) dX11_blow_19 (by decide) ?_
      exact j_ireturn (pc := 20) dX11_blow_20 rfl (ri_1 H) (ri_2 H)

noncomputable def fX11_areTanks_64 (k24 : Int32 → Int32 → Int32 → HS → Option (Int32 × HS)) (v1 : Int32) (v3 : Int32) (s0 : Int32) (h : HS) : Option (Int32 × HS) := nm (v3 + (1 : Int32)) (fun v3_8 => k24 v1 s0 v3_8 h)
set_option maxRecDepth 100000 in
theorem jX11_areTanks_64 {r : Int32} {h0 : HS} (k24 : Int32 → Int32 → Int32 → HS → Option (Int32 × HS)) (hk24 : ∀ (v1 : Int32) (v2 : Int32) (v3 : Int32) (h : HS), k24 v1 v2 v3 h = some (r, h0) → Jx skC RX11 cX11_areTanks 4 (some .boolean) 0 (some (.int r)) h0 24 [some (.ref 0), some (.int v1), some (.int v2), some (.int v3)] [] h) (v1 : Int32) (v3 : Int32) (s0 : Int32) (h : HS) (H : fX11_areTanks_64 k24 v1 v3 s0 h = some (r, h0)) : Jx skC RX11 cX11_areTanks 4 (some .boolean) 0 (some (.int r)) h0 64 [some (.ref 0), some (.int v1), none, some (.int v3)] [.int s0] h := by
  unfold fX11_areTanks_64 at H
  refine j_istore_n (pc := 64) (L' := [some (.ref 0), some (.int v1), some (.int s0), some (.int v3)]) dX11_areTanks_64 (by decide) rfl ?_
  obtain ⟨v3_8, ev3_8, H⟩ := nm_x H
  refine j_iinc (pc := 65) (L' := [some (.ref 0), some (.int v1), some (.int s0), some (.int v3_8)]) (w := 1) dX11_areTanks_65 rfl (by decide) (by decide) v3_8 ev3_8 rfl ?_
  refine j_goto (pc := 68) (tgt := 24) dX11_areTanks_68 (by decide) ?_
  refine Jx.sub (L' := [some (.ref 0), some (.int v1), some (.int s0), some (.int v3_8)]) (⟨rfl, ⟨rfl, ⟨rfl, ⟨rfl, trivial⟩⟩⟩⟩) ?_
  exact hk24 v1 s0 v3_8 h H
noncomputable def fX11_areTanks_63 (k24 : Int32 → Int32 → Int32 → HS → Option (Int32 × HS)) (v1 : Int32) (v3 : Int32) (h : HS) : Option (Int32 × HS) := fX11_areTanks_64 k24 v1 v3 (0 : Int32) h
set_option maxRecDepth 100000 in
theorem jX11_areTanks_63 {r : Int32} {h0 : HS} (k24 : Int32 → Int32 → Int32 → HS → Option (Int32 × HS)) (hk24 : ∀ (v1 : Int32) (v2 : Int32) (v3 : Int32) (h : HS), k24 v1 v2 v3 h = some (r, h0) → Jx skC RX11 cX11_areTanks 4 (some .boolean) 0 (some (.int r)) h0 24 [some (.ref 0), some (.int v1), some (.int v2), some (.int v3)] [] h) (v1 : Int32) (v3 : Int32) (h : HS) (H : fX11_areTanks_63 k24 v1 v3 h = some (r, h0)) : Jx skC RX11 cX11_areTanks 4 (some .boolean) 0 (some (.int r)) h0 63 [some (.ref 0), some (.int v1), none, some (.int v3)] [] h := by
  unfold fX11_areTanks_63 at H
  refine j_iconst (pc := 63) (v := 0) dX11_areTanks_63 (by decide) ?_
  refine Jx.sub (L' := [some (.ref 0), some (.int v1), none, some (.int v3)]) (⟨rfl, ⟨rfl, ⟨rfl, trivial⟩⟩⟩) ?_
  exact jX11_areTanks_64 _ hk24 v1 v3 (0 : Int32) h H
noncomputable def fX11_areTanks_59 (k24 : Int32 → Int32 → Int32 → HS → Option (Int32 × HS)) (v1 : Int32) (v3 : Int32) (h : HS) : Option (Int32 × HS) := fX11_areTanks_64 k24 v1 v3 (1 : Int32) h
set_option maxRecDepth 100000 in
theorem jX11_areTanks_59 {r : Int32} {h0 : HS} (k24 : Int32 → Int32 → Int32 → HS → Option (Int32 × HS)) (hk24 : ∀ (v1 : Int32) (v2 : Int32) (v3 : Int32) (h : HS), k24 v1 v2 v3 h = some (r, h0) → Jx skC RX11 cX11_areTanks 4 (some .boolean) 0 (some (.int r)) h0 24 [some (.ref 0), some (.int v1), some (.int v2), some (.int v3)] [] h) (v1 : Int32) (v3 : Int32) (h : HS) (H : fX11_areTanks_59 k24 v1 v3 h = some (r, h0)) : Jx skC RX11 cX11_areTanks 4 (some .boolean) 0 (some (.int r)) h0 59 [some (.ref 0), some (.int v1), none, some (.int v3)] [] h := by
  unfold fX11_areTanks_59 at H
  refine j_iconst (pc := 59) (v := 1) dX11_areTanks_59 (by decide) ?_
  refine j_goto (pc := 60) (tgt := 64) dX11_areTanks_60 (by decide) ?_
  refine Jx.sub (L' := [some (.ref 0), some (.int v1), none, some (.int v3)]) (⟨rfl, ⟨rfl, ⟨rfl, trivial⟩⟩⟩) ?_
  exact jX11_areTanks_64 _ hk24 v1 v3 (1 : Int32) h H
noncomputable def fX11_areTanks_24 : Nat → Int32 → Int32 → Int32 → HS → Option (Int32 × HS)
  | 0, _, _, _, _ => none
  | n + 1, v1, v2, v3, h => if (gI h 2 8) ≤ v3 then (some (vp_nar .boolean v2, h)) else (if v2 = 0 then (fX11_areTanks_63 (fX11_areTanks_24 n) v1 v3 h) else (if ((v1 >>> (v3 &&& 31)) &&& (1 : Int32)) = 0 then (fX11_areTanks_59 (fX11_areTanks_24 n) v1 v3 h) else (ck (inb v3 15) (if (gI h 26 v3.toNatClampNeg) = 0 then (fX11_areTanks_59 (fX11_areTanks_24 n) v1 v3 h) else (fX11_areTanks_63 (fX11_areTanks_24 n) v1 v3 h)))))
set_option maxRecDepth 100000 in
theorem jX11_areTanks_24 {r : Int32} {h0 : HS} : ∀ (n : Nat) (v1 : Int32) (v2 : Int32) (v3 : Int32) (h : HS), fX11_areTanks_24 n v1 v2 v3 h = some (r, h0) → Jx skC RX11 cX11_areTanks 4 (some .boolean) 0 (some (.int r)) h0 24 [some (.ref 0), some (.int v1), some (.int v2), some (.int v3)] [] h := by
  intro n
  induction n with
  | zero => intro v1 v2 v3  h H; cases H
  | succ n ih =>
    intro v1 v2 v3  h H
    rw [fX11_areTanks_24] at H
    refine j_iload_n (pc := 24) dX11_areTanks_24 rfl ?_
    refine j_aload_n (pc := 25) dX11_areTanks_25 rfl ?_
    refine j_getR (pc := 26) (b := 2) dX11_areTanks_26 flX11_20 rfl ?_
    refine j_getI (pc := 29) dX11_areTanks_29 flX11_104 rfl ?_
    refine j_icmp_ge (pc := 32) (tgt := 71) dX11_areTanks_32 (by decide) (fun c3 => ?_) (fun c3 => ?_)
    · rw [if_pos c3] at H
      refine j_iload_n (pc := 71) dX11_areTanks_71 rfl ?_
      exact j_zreturn (pc := 72) dX11_areTanks_72 rfl (ri_1 H) (ri_2 H)
    · rw [if_neg c3] at H
      refine j_iload_n (pc := 35) dX11_areTanks_35 rfl ?_
      refine j_if_eq (pc := 36) (tgt := 63) dX11_areTanks_36 (by decide) (fun c4 => ?_) (fun c4 => ?_)
      · rw [if_pos c4] at H
        refine Jx.sub (L' := [some (.ref 0), some (.int v1), none, some (.int v3)]) (⟨rfl, ⟨rfl, ⟨rfl, trivial⟩⟩⟩) ?_
        exact jX11_areTanks_63 _ ih v1 v3 h H
      · rw [if_neg c4] at H
        refine j_iload_n (pc := 39) dX11_areTanks_39 rfl ?_
        refine j_iload_n (pc := 40) dX11_areTanks_40 rfl ?_
        refine j_ishr (pc := 41) dX11_areTanks_41 ?_
        refine j_iconst (pc := 42) (v := 1) dX11_areTanks_42 (by decide) ?_
        refine j_iand (pc := 43) dX11_areTanks_43 ?_
        refine j_if_eq (pc := 44) (tgt := 59) dX11_areTanks_44 (by decide) (fun c5 => ?_) (fun c5 => ?_)
        · rw [if_pos c5] at H
          refine Jx.sub (L' := [some (.ref 0), some (.int v1), none, some (.int v3)]) (⟨rfl, ⟨rfl, ⟨rfl, trivial⟩⟩⟩) ?_
          exact jX11_areTanks_59 _ ih v1 v3 h H
        · rw [if_neg c5] at H
          refine j_aload_n (pc := 47) dX11_areTanks_47 rfl ?_
          refine j_getR (pc := 48) (b := 2) dX11_areTanks_48 flX11_20 rfl ?_
          refine j_getR (pc := 51) (b := 26) dX11_areTanks_51 flX11_161 rfl ?_
          refine j_iload_n (pc := 54) dX11_areTanks_54 rfl ?_
          obtain ⟨b6, H⟩ := ck_x H
          refine j_iaload (pc := 55) dX11_areTanks_55 rfl b6 rfl ?_
          refine j_if_ne (pc := 56) (tgt := 63) dX11_areTanks_56 (by decide) (fun c7 => ?_) (fun c7 => ?_)
          · rw [if_neg c7] at H
            refine Jx.sub (L' := [some (.ref 0), some (.int v1), none, some (.int v3)]) (⟨rfl, ⟨rfl, ⟨rfl, trivial⟩⟩⟩) ?_
            exact jX11_areTanks_63 _ ih v1 v3 h H
          · rw [if_pos c7] at H
            refine Jx.sub (L' := [some (.ref 0), some (.int v1), none, some (.int v3)]) (⟨rfl, ⟨rfl, ⟨rfl, trivial⟩⟩⟩) ?_
            exact jX11_areTanks_59 _ ih v1 v3 h H
noncomputable def fX11_areTanks_21 (v1 : Int32) (s0 : Int32) (h : HS) : Option (Int32 × HS) := fX11_areTanks_24 FU v1 s0 (0 : Int32) h
set_option maxRecDepth 100000 in
theorem jX11_areTanks_21 {r : Int32} {h0 : HS} (v1 : Int32) (s0 : Int32) (h : HS) (H : fX11_areTanks_21 v1 s0 h = some (r, h0)) : Jx skC RX11 cX11_areTanks 4 (some .boolean) 0 (some (.int r)) h0 21 [some (.ref 0), some (.int v1), none, none] [.int s0] h := by
  unfold fX11_areTanks_21 at H
  refine j_istore_n (pc := 21) (L' := [some (.ref 0), some (.int v1), some (.int s0), none]) dX11_areTanks_21 (by decide) rfl ?_
  refine j_iconst (pc := 22) (v := 0) dX11_areTanks_22 (by decide) ?_
  refine j_istore_n (pc := 23) (L' := [some (.ref 0), some (.int v1), some (.int s0), some (.int (0 : Int32))]) dX11_areTanks_23 (by decide) rfl ?_
  refine Jx.sub (L' := [some (.ref 0), some (.int v1), some (.int s0), some (.int (0 : Int32))]) (⟨rfl, ⟨rfl, ⟨rfl, ⟨rfl, trivial⟩⟩⟩⟩) ?_
  exact jX11_areTanks_24 FU v1 s0 (0 : Int32) h H
noncomputable def fX11_areTanks_20 (v1 : Int32) (h : HS) : Option (Int32 × HS) := fX11_areTanks_21 v1 (0 : Int32) h
set_option maxRecDepth 100000 in
theorem jX11_areTanks_20 {r : Int32} {h0 : HS} (v1 : Int32) (h : HS) (H : fX11_areTanks_20 v1 h = some (r, h0)) : Jx skC RX11 cX11_areTanks 4 (some .boolean) 0 (some (.int r)) h0 20 [some (.ref 0), some (.int v1), none, none] [] h := by
  unfold fX11_areTanks_20 at H
  refine j_iconst (pc := 20) (v := 0) dX11_areTanks_20 (by decide) ?_
  refine Jx.sub (L' := [some (.ref 0), some (.int v1), none, none]) (⟨rfl, ⟨rfl, trivial⟩⟩) ?_
  exact jX11_areTanks_21 v1 (0 : Int32) h H
noncomputable def fX11_areTanks (p1 : Int32) (h : HS) : Option (Int32 × HS) := if p1 = 0 then (fX11_areTanks_20 p1 h) else (if (iush p1 (gI h 2 8)) = 0 then (fX11_areTanks_21 p1 (1 : Int32) h) else (fX11_areTanks_20 p1 h))
set_option maxRecDepth 100000 in
theorem tX11_areTanks {p1 : Int32} {r : Int32} {h h0 : HS} (H : fX11_areTanks p1 h = some (r, h0)) : Cn skC yX11_areTanks cX11_areTanks 4 (some .boolean) 0 [.ref 0, .int p1] h (some (.int r)) h0 := by
  refine Cn_of (L := [some (.ref 0), some (.int p1), none, none]) (by decide +kernel) (by simp [lg_sl, Value.category]) (fun ad => by simp [lg_sl, tv, Value.category]) (⟨rfl, ⟨rfl, trivial⟩⟩) ?_
  unfold fX11_areTanks at H
  refine j_iload_n (pc := 0) dX11_areTanks_0 rfl ?_
  refine j_if_eq (pc := 1) (tgt := 20) dX11_areTanks_1 (by decide) (fun c1 => ?_) (fun c1 => ?_)
  · rw [if_pos c1] at H
    refine Jx.sub (L' := [some (.ref 0), some (.int p1), none, none]) (⟨rfl, ⟨rfl, trivial⟩⟩) ?_
    exact jX11_areTanks_20 p1 h H
  · rw [if_neg c1] at H
    refine j_iload_n (pc := 4) dX11_areTanks_4 rfl ?_
    refine j_aload_n (pc := 5) dX11_areTanks_5 rfl ?_
    refine j_getR (pc := 6) (b := 2) dX11_areTanks_6 flX11_20 rfl ?_
    refine j_getI (pc := 9) dX11_areTanks_9 flX11_104 rfl ?_
    refine j_iushr (pc := 12) dX11_areTanks_12 ?_
    refine j_if_ne (pc := 13) (tgt := 20) dX11_areTanks_13 (by decide) (fun c2 => ?_) (fun c2 => ?_)
    · rw [if_neg c2] at H
      refine Jx.sub (L' := [some (.ref 0), some (.int p1), none, none]) (⟨rfl, ⟨rfl, trivial⟩⟩) ?_
      exact jX11_areTanks_20 p1 h H
    · rw [if_pos c2] at H
      refine j_iconst (pc := 16) (v := 1) dX11_areTanks_16 (by decide) ?_
      refine j_goto (pc := 17) (tgt := 21) dX11_areTanks_17 (by decide) ?_
      refine Jx.sub (L' := [some (.ref 0), some (.int p1), none, none]) (⟨rfl, ⟨rfl, trivial⟩⟩) ?_
      exact jX11_areTanks_21 p1 (1 : Int32) h H

noncomputable def fX11_airForAll_45 (k5 : Int32 → Int32 → Int32 → Int32 → HS → Option (Int32 × HS)) (v1 : Int32) (v2 : Int32) (v4 : Int32) (s1 : Int32) (s0 : Int32) (h : HS) : Option (Int32 × HS) := nm ((s0 + s1)) (fun v3_6 => nm (v4 + (1 : Int32)) (fun v4_7 => k5 v1 v2 v3_6 v4_7 h))
set_option maxRecDepth 100000 in
theorem jX11_airForAll_45 {r : Int32} {h0 : HS} (k5 : Int32 → Int32 → Int32 → Int32 → HS → Option (Int32 × HS)) (hk5 : ∀ (v1 : Int32) (v2 : Int32) (v3 : Int32) (v4 : Int32) (h : HS), k5 v1 v2 v3 v4 h = some (r, h0) → Jx skC RX11 cX11_airForAll 5 (some .int) 1 (some (.int r)) h0 5 [some (.ref 0), some (.int v1), some (.int v2), some (.int v3), some (.int v4)] [] h) (v1 : Int32) (v2 : Int32) (v4 : Int32) (s1 : Int32) (s0 : Int32) (h : HS) (H : fX11_airForAll_45 k5 v1 v2 v4 s1 s0 h = some (r, h0)) : Jx skC RX11 cX11_airForAll 5 (some .int) 1 (some (.int r)) h0 45 [some (.ref 0), some (.int v1), some (.int v2), none, some (.int v4)] [.int s1, .int s0] h := by
  unfold fX11_airForAll_45 at H
  refine j_iadd (pc := 45) dX11_airForAll_45 ?_
  obtain ⟨v3_6, ev3_6, H⟩ := nm_x H
  refine j_topi ev3_6 ?_
  refine j_istore_n (pc := 46) (L' := [some (.ref 0), some (.int v1), some (.int v2), some (.int v3_6), some (.int v4)]) dX11_airForAll_46 (by decide) rfl ?_
  obtain ⟨v4_7, ev4_7, H⟩ := nm_x H
  refine j_iinc (pc := 47) (L' := [some (.ref 0), some (.int v1), some (.int v2), some (.int v3_6), some (.int v4_7)]) (w := 1) dX11_airForAll_47 rfl (by decide) (by decide) v4_7 ev4_7 rfl ?_
  refine j_goto (pc := 50) (tgt := 5) dX11_airForAll_50 (by decide) ?_
  refine Jx.sub (L' := [some (.ref 0), some (.int v1), some (.int v2), some (.int v3_6), some (.int v4_7)]) (⟨rfl, ⟨rfl, ⟨rfl, ⟨rfl, ⟨rfl, trivial⟩⟩⟩⟩⟩) ?_
  exact hk5 v1 v2 v3_6 v4_7 h H
noncomputable def fX11_airForAll_5 : Nat → Int32 → Int32 → Int32 → Int32 → HS → Option (Int32 × HS)
  | 0, _, _, _, _, _ => none
  | n + 1, v1, v2, v3, v4, h => if (gI h 2 8) ≤ v4 then (some (v3, h)) else (if ((v1 >>> (v4 &&& 31)) &&& (1 : Int32)) = 0 then (fX11_airForAll_45 (fX11_airForAll_5 n) v1 v2 v4 (0 : Int32) v3 h) else (ck (inb v4 15) (bd (fX11_airFor ((gI h 30 v4.toNatClampNeg)) v2 h) (fun r5 h4 => fX11_airForAll_45 (fX11_airForAll_5 n) v1 v2 v4 r5 v3 h4))))
set_option maxRecDepth 100000 in
theorem jX11_airForAll_5 {r : Int32} {h0 : HS} : ∀ (n : Nat) (v1 : Int32) (v2 : Int32) (v3 : Int32) (v4 : Int32) (h : HS), fX11_airForAll_5 n v1 v2 v3 v4 h = some (r, h0) → Jx skC RX11 cX11_airForAll 5 (some .int) 1 (some (.int r)) h0 5 [some (.ref 0), some (.int v1), some (.int v2), some (.int v3), some (.int v4)] [] h := by
  intro n
  induction n with
  | zero => intro v1 v2 v3 v4  h H; cases H
  | succ n ih =>
    intro v1 v2 v3 v4  h H
    rw [fX11_airForAll_5] at H
    refine j_iload (pc := 5) dX11_airForAll_5 rfl ?_
    refine j_aload_n (pc := 7) dX11_airForAll_7 rfl ?_
    refine j_getR (pc := 8) (b := 2) dX11_airForAll_8 flX11_20 rfl ?_
    refine j_getI (pc := 11) dX11_airForAll_11 flX11_104 rfl ?_
    refine j_icmp_ge (pc := 14) (tgt := 53) dX11_airForAll_14 (by decide) (fun c1 => ?_) (fun c1 => ?_)
    · rw [if_pos c1] at H
      refine j_iload_n (pc := 53) dX11_airForAll_53 rfl ?_
      exact j_ireturn (pc := 54) dX11_airForAll_54 rfl (ri_1 H) (ri_2 H)
    · rw [if_neg c1] at H
      refine j_iload_n (pc := 17) dX11_airForAll_17 rfl ?_
      refine j_iload_n (pc := 18) dX11_airForAll_18 rfl ?_
      refine j_iload (pc := 19) dX11_airForAll_19 rfl ?_
      refine j_ishr (pc := 21) dX11_airForAll_21 ?_
      refine j_iconst (pc := 22) (v := 1) dX11_airForAll_22 (by decide) ?_
      refine j_iand (pc := 23) dX11_airForAll_23 ?_
      refine j_if_ne (pc := 24) (tgt := 31) dX11_airForAll_24 (by decide) (fun c2 => ?_) (fun c2 => ?_)
      · rw [if_neg c2] at H
        refine j_aload_n (pc := 31) dX11_airForAll_31 rfl ?_
        refine j_getR (pc := 32) (b := 2) dX11_airForAll_32 flX11_20 rfl ?_
        refine j_getR (pc := 35) (b := 30) dX11_airForAll_35 flX11_98 rfl ?_
        refine j_iload (pc := 38) dX11_airForAll_38 rfl ?_
        obtain ⟨b3, H⟩ := ck_x H
        refine j_iaload (pc := 40) dX11_airForAll_40 rfl b3 rfl ?_
        refine j_iload_n (pc := 41) dX11_airForAll_41 rfl ?_
        obtain ⟨r5, h4, eh4, H⟩ := bd_x H
        refine j_callS (pc := 42) dX11_airForAll_42 mlX11_382 wyX11_airFor (tX11_airFor eh4) (by decide) rfl (by simp [Value.category]) rfl ?_
        refine Jx.sub (L' := [some (.ref 0), some (.int v1), some (.int v2), none, some (.int v4)]) (⟨rfl, ⟨rfl, ⟨rfl, ⟨rfl, trivial⟩⟩⟩⟩) ?_
        exact jX11_airForAll_45 _ ih v1 v2 v4 r5 v3 h4 H
      · rw [if_pos c2] at H
        refine j_iconst (pc := 27) (v := 0) dX11_airForAll_27 (by decide) ?_
        refine j_goto (pc := 28) (tgt := 45) dX11_airForAll_28 (by decide) ?_
        refine Jx.sub (L' := [some (.ref 0), some (.int v1), some (.int v2), none, some (.int v4)]) (⟨rfl, ⟨rfl, ⟨rfl, ⟨rfl, trivial⟩⟩⟩⟩) ?_
        exact jX11_airForAll_45 _ ih v1 v2 v4 (0 : Int32) v3 h H
noncomputable def fX11_airForAll (p1 : Int32) (p2 : Int32) (h : HS) : Option (Int32 × HS) := fX11_airForAll_5 FU p1 p2 (0 : Int32) (0 : Int32) h
set_option maxRecDepth 100000 in
theorem tX11_airForAll {p1 : Int32} {p2 : Int32} {r : Int32} {h h0 : HS} (H : fX11_airForAll p1 p2 h = some (r, h0)) : Cn skC yX11_airForAll cX11_airForAll 5 (some .int) 1 [.ref 0, .int p1, .int p2] h (some (.int r)) h0 := by
  refine Cn_of (L := [some (.ref 0), some (.int p1), some (.int p2), none, none]) (by decide +kernel) (by simp [lg_sl, Value.category]) (fun ad => by simp [lg_sl, tv, Value.category]) (⟨rfl, ⟨rfl, ⟨rfl, trivial⟩⟩⟩) ?_
  unfold fX11_airForAll at H
  refine j_iconst (pc := 0) (v := 0) dX11_airForAll_0 (by decide) ?_
  refine j_istore_n (pc := 1) (L' := [some (.ref 0), some (.int p1), some (.int p2), some (.int (0 : Int32)), none]) dX11_airForAll_1 (by decide) rfl ?_
  refine j_iconst (pc := 2) (v := 0) dX11_airForAll_2 (by decide) ?_
  refine j_istore (pc := 3) (L' := [some (.ref 0), some (.int p1), some (.int p2), some (.int (0 : Int32)), some (.int (0 : Int32))]) dX11_airForAll_3 (by decide) rfl ?_
  refine Jx.sub (L' := [some (.ref 0), some (.int p1), some (.int p2), some (.int (0 : Int32)), some (.int (0 : Int32))]) (⟨rfl, ⟨rfl, ⟨rfl, ⟨rfl, ⟨rfl, trivial⟩⟩⟩⟩⟩) ?_
  exact jX11_airForAll_5 FU p1 p2 (0 : Int32) (0 : Int32) h H

noncomputable def fX11_tanksHave_37 (k4 : Int32 → Int32 → Int32 → HS → Option (Int32 × HS)) (v1 : Int32) (v3 : Int32) (s1 : Int32) (s0 : Int32) (h : HS) : Option (Int32 × HS) := nm ((s0 + s1)) (fun v2_4 => nm (v3 + (1 : Int32)) (fun v3_5 => k4 v1 v2_4 v3_5 h))
set_option maxRecDepth 100000 in
theorem jX11_tanksHave_37 {r : Int32} {h0 : HS} (k4 : Int32 → Int32 → Int32 → HS → Option (Int32 × HS)) (hk4 : ∀ (v1 : Int32) (v2 : Int32) (v3 : Int32) (h : HS), k4 v1 v2 v3 h = some (r, h0) → Jx skC RX11 cX11_tanksHave 4 (some .int) 0 (some (.int r)) h0 4 [some (.ref 0), some (.int v1), some (.int v2), some (.int v3)] [] h) (v1 : Int32) (v3 : Int32) (s1 : Int32) (s0 : Int32) (h : HS) (H : fX11_tanksHave_37 k4 v1 v3 s1 s0 h = some (r, h0)) : Jx skC RX11 cX11_tanksHave 4 (some .int) 0 (some (.int r)) h0 37 [some (.ref 0), some (.int v1), none, some (.int v3)] [.int s1, .int s0] h := by
  unfold fX11_tanksHave_37 at H
  refine j_iadd (pc := 37) dX11_tanksHave_37 ?_
  obtain ⟨v2_4, ev2_4, H⟩ := nm_x H
  refine j_topi ev2_4 ?_
  refine j_istore_n (pc := 38) (L' := [some (.ref 0), some (.int v1), some (.int v2_4), some (.int v3)]) dX11_tanksHave_38 (by decide) rfl ?_
  obtain ⟨v3_5, ev3_5, H⟩ := nm_x H
  refine j_iinc (pc := 39) (L' := [some (.ref 0), some (.int v1), some (.int v2_4), some (.int v3_5)]) (w := 1) dX11_tanksHave_39 rfl (by decide) (by decide) v3_5 ev3_5 rfl ?_
  refine j_goto (pc := 42) (tgt := 4) dX11_tanksHave_42 (by decide) ?_
  refine Jx.sub (L' := [some (.ref 0), some (.int v1), some (.int v2_4), some (.int v3_5)]) (⟨rfl, ⟨rfl, ⟨rfl, ⟨rfl, trivial⟩⟩⟩⟩) ?_
  exact hk4 v1 v2_4 v3_5 h H
noncomputable def fX11_tanksHave_4 : Nat → Int32 → Int32 → Int32 → HS → Option (Int32 × HS)
  | 0, _, _, _, _ => none
  | n + 1, v1, v2, v3, h => if (gI h 2 8) ≤ v3 then (some (v2, h)) else (if ((v1 >>> (v3 &&& 31)) &&& (1 : Int32)) = 0 then (fX11_tanksHave_37 (fX11_tanksHave_4 n) v1 v3 (0 : Int32) v2 h) else (ck (inb v3 15) (fX11_tanksHave_37 (fX11_tanksHave_4 n) v1 v3 ((gI h 30 v3.toNatClampNeg)) v2 h)))
set_option maxRecDepth 100000 in
theorem jX11_tanksHave_4 {r : Int32} {h0 : HS} : ∀ (n : Nat) (v1 : Int32) (v2 : Int32) (v3 : Int32) (h : HS), fX11_tanksHave_4 n v1 v2 v3 h = some (r, h0) → Jx skC RX11 cX11_tanksHave 4 (some .int) 0 (some (.int r)) h0 4 [some (.ref 0), some (.int v1), some (.int v2), some (.int v3)] [] h := by
  intro n
  induction n with
  | zero => intro v1 v2 v3  h H; cases H
  | succ n ih =>
    intro v1 v2 v3  h H
    rw [fX11_tanksHave_4] at H
    refine j_iload_n (pc := 4) dX11_tanksHave_4 rfl ?_
    refine j_aload_n (pc := 5) dX11_tanksHave_5 rfl ?_
    refine j_getR (pc := 6) (b := 2) dX11_tanksHave_6 flX11_20 rfl ?_
    refine j_getI (pc := 9) dX11_tanksHave_9 flX11_104 rfl ?_
    refine j_icmp_ge (pc := 12) (tgt := 45) dX11_tanksHave_12 (by decide) (fun c1 => ?_) (fun c1 => ?_)
    · rw [if_pos c1] at H
      refine j_iload_n (pc := 45) dX11_tanksHave_45 rfl ?_
      exact j_ireturn (pc := 46) dX11_tanksHave_46 rfl (ri_1 H) (ri_2 H)
    · rw [if_neg c1] at H
      refine j_iload_n (pc := 15) dX11_tanksHave_15 rfl ?_
      refine j_iload_n (pc := 16) dX11_tanksHave_16 rfl ?_
      refine j_iload_n (pc := 17) dX11_tanksHave_17 rfl ?_
      refine j_ishr (pc := 18) dX11_tanksHave_18 ?_
      refine j_iconst (pc := 19) (v := 1) dX11_tanksHave_19 (by decide) ?_
      refine j_iand (pc := 20) dX11_tanksHave_20 ?_
      refine j_if_ne (pc := 21) (tgt := 28) dX11_tanksHave_21 (by decide) (fun c2 => ?_) (fun c2 => ?_)
      · rw [if_neg c2] at H
        refine j_aload_n (pc := 28) dX11_tanksHave_28 rfl ?_
        refine j_getR (pc := 29) (b := 2) dX11_tanksHave_29 flX11_20 rfl ?_
        refine j_getR (pc := 32) (b := 30) dX11_tanksHave_32 flX11_98 rfl ?_
        refine j_iload_n (pc := 35) dX11_tanksHave_35 rfl ?_
        obtain ⟨b3, H⟩ := ck_x H
        refine j_iaload (pc := 36) dX11_tanksHave_36 rfl b3 rfl ?_
        refine Jx.sub (L' := [some (.ref 0), some (.int v1), none, some (.int v3)]) (⟨rfl, ⟨rfl, ⟨rfl, trivial⟩⟩⟩) ?_
        exact jX11_tanksHave_37 _ ih v1 v3 ((gI h 30 v3.toNatClampNeg)) v2 h H
      · rw [if_pos c2] at H
        refine j_iconst (pc := 24) (v := 0) dX11_tanksHave_24 (by decide) ?_
        refine j_goto (pc := 25) (tgt := 37) dX11_tanksHave_25 (by decide) ?_
        refine Jx.sub (L' := [some (.ref 0), some (.int v1), none, some (.int v3)]) (⟨rfl, ⟨rfl, ⟨rfl, trivial⟩⟩⟩) ?_
        exact jX11_tanksHave_37 _ ih v1 v3 (0 : Int32) v2 h H
noncomputable def fX11_tanksHave (p1 : Int32) (h : HS) : Option (Int32 × HS) := fX11_tanksHave_4 FU p1 (0 : Int32) (0 : Int32) h
set_option maxRecDepth 100000 in
theorem tX11_tanksHave {p1 : Int32} {r : Int32} {h h0 : HS} (H : fX11_tanksHave p1 h = some (r, h0)) : Cn skC yX11_tanksHave cX11_tanksHave 4 (some .int) 0 [.ref 0, .int p1] h (some (.int r)) h0 := by
  refine Cn_of (L := [some (.ref 0), some (.int p1), none, none]) (by decide +kernel) (by simp [lg_sl, Value.category]) (fun ad => by simp [lg_sl, tv, Value.category]) (⟨rfl, ⟨rfl, trivial⟩⟩) ?_
  unfold fX11_tanksHave at H
  refine j_iconst (pc := 0) (v := 0) dX11_tanksHave_0 (by decide) ?_
  refine j_istore_n (pc := 1) (L' := [some (.ref 0), some (.int p1), some (.int (0 : Int32)), none]) dX11_tanksHave_1 (by decide) rfl ?_
  refine j_iconst (pc := 2) (v := 0) dX11_tanksHave_2 (by decide) ?_
  refine j_istore_n (pc := 3) (L' := [some (.ref 0), some (.int p1), some (.int (0 : Int32)), some (.int (0 : Int32))]) dX11_tanksHave_3 (by decide) rfl ?_
  refine Jx.sub (L' := [some (.ref 0), some (.int p1), some (.int (0 : Int32)), some (.int (0 : Int32))]) (⟨rfl, ⟨rfl, ⟨rfl, ⟨rfl, trivial⟩⟩⟩⟩) ?_
  exact jX11_tanksHave_4 FU p1 (0 : Int32) (0 : Int32) h H

noncomputable def fX11_isLess_20 (h : HS) : Option (Int32 × HS) := some ((1 : Int32), h)
set_option maxRecDepth 100000 in
theorem jX11_isLess_20 {r : Int32} {h0 : HS} (h : HS) (H : fX11_isLess_20 h = some (r, h0)) : Jx skC RX11 cX11_isLess 4 (some .boolean) 1 (some (.int r)) h0 20 [none, none, none, none] [] h := by
  unfold fX11_isLess_20 at H
  refine j_iconst (pc := 20) (v := 1) dX11_isLess_20 (by decide) ?_
  refine j_goto (pc := 21) (tgt := 25) dX11_isLess_21 (by decide) ?_
  exact j_zreturn (pc := 25) dX11_isLess_25 rfl (rz1 H) (ri_2 H)
noncomputable def fX11_isLess_10 (v1 : Int32) (v2 : Int32) (v3 : Int32) (h : HS) : Option (Int32 × HS) := if v2 = (-1 : Int32) then (fX11_isLess_20 h) else (if v3 ≤ v1 then (some ((0 : Int32), h)) else (fX11_isLess_20 h))
set_option maxRecDepth 100000 in
theorem jX11_isLess_10 {r : Int32} {h0 : HS} (v1 : Int32) (v2 : Int32) (v3 : Int32) (h : HS) (H : fX11_isLess_10 v1 v2 v3 h = some (r, h0)) : Jx skC RX11 cX11_isLess 4 (some .boolean) 1 (some (.int r)) h0 10 [none, some (.int v1), some (.int v2), some (.int v3)] [] h := by
  unfold fX11_isLess_10 at H
  refine j_iload_n (pc := 10) dX11_isLess_10 rfl ?_
  refine j_iconst (pc := 11) (v := -1) dX11_isLess_11 (by decide) ?_
  refine j_icmp_eq (pc := 12) (tgt := 20) dX11_isLess_12 (by decide) (fun c8 => ?_) (fun c8 => ?_)
  · rw [if_pos c8] at H
    refine Jx.sub (L' := [none, none, none, none]) (trivial) ?_
    exact jX11_isLess_20 h H
  · rw [if_neg c8] at H
    refine j_iload_n (pc := 15) dX11_isLess_15 rfl ?_
    refine j_iload_n (pc := 16) dX11_isLess_16 rfl ?_
    refine j_icmp_ge (pc := 17) (tgt := 24) dX11_isLess_17 (by decide) (fun c9 => ?_) (fun c9 => ?_)
    · rw [if_pos c9] at H
      refine j_iconst (pc := 24) (v := 0) dX11_isLess_24 (by decide) ?_
      exact j_zreturn (pc := 25) dX11_isLess_25 rfl (rz0 H) (ri_2 H)
    · rw [if_neg c9] at H
      refine Jx.sub (L' := [none, none, none, none]) (trivial) ?_
      exact jX11_isLess_20 h H
noncomputable def fX11_isLess (p1 : Int32) (p2 : Int32) (p3 : Int32) (p4 : Int32) (h : HS) : Option (Int32 × HS) := if p3 = (-1 : Int32) then (fX11_isLess_10 p2 p3 p4 h) else (if p2 = p4 then (bd (fJ6_bitCount_0f7a4 p1 h) (fun r4 h3 => bd (fJ6_bitCount_0f7a4 p3 h3) (fun r6 h5 => if r6 ≤ r4 then (some ((0 : Int32), h5)) else (some ((1 : Int32), h5))))) else (fX11_isLess_10 p2 p3 p4 h))
set_option maxRecDepth 100000 in
theorem tX11_isLess {p1 : Int32} {p2 : Int32} {p3 : Int32} {p4 : Int32} {r : Int32} {h h0 : HS} (H : fX11_isLess p1 p2 p3 p4 h = some (r, h0)) : Cn skC yX11_isLess cX11_isLess 4 (some .boolean) 1 [.int p1, .int p2, .int p3, .int p4] h (some (.int r)) h0 := by
  refine Cn_of (L := [some (.int p1), some (.int p2), some (.int p3), some (.int p4)]) (by decide +kernel) (by simp [lg_sl, Value.category]) (fun ad => by simp [lg_sl, tv, Value.category]) (⟨rfl, ⟨rfl, ⟨rfl, ⟨rfl, trivial⟩⟩⟩⟩) ?_
  unfold fX11_isLess at H
  refine j_iload_n (pc := 0) dX11_isLess_0 rfl ?_
  refine j_iconst (pc := 1) (v := -1) dX11_isLess_1 (by decide) ?_
  refine j_icmp_eq (pc := 2) (tgt := 10) dX11_isLess_2 (by decide) (fun c1 => ?_) (fun c1 => ?_)
  · rw [if_pos c1] at H
    refine Jx.sub (L' := [none, some (.int p2), some (.int p3), some (.int p4)]) (⟨rfl, ⟨rfl, ⟨rfl, trivial⟩⟩⟩) ?_
    exact jX11_isLess_10 p2 p3 p4 h H
  · rw [if_neg c1] at H
    refine j_iload_n (pc := 5) dX11_isLess_5 rfl ?_
    refine j_iload_n (pc := 6) dX11_isLess_6 rfl ?_
    refine j_icmp_eq (pc := 7) (tgt := 26) dX11_isLess_7 (by decide) (fun c2 => ?_) (fun c2 => ?_)
    · rw [if_pos c2] at H
      refine j_iload_n (pc := 26) dX11_isLess_26 rfl ?_
      obtain ⟨r4, h3, eh3, H⟩ := bd_x H
      refine j_callS (pc := 27) dX11_isLess_27 mlX11_371 wyJ6_bitCount_0f7a4 (tJ6_bitCount_0f7a4 eh3) (by decide) rfl (by simp [Value.category]) rfl ?_
      refine j_iload_n (pc := 30) dX11_isLess_30 rfl ?_
      obtain ⟨r6, h5, eh5, H⟩ := bd_x H
      refine j_callS (pc := 31) dX11_isLess_31 mlX11_371 wyJ6_bitCount_0f7a4 (tJ6_bitCount_0f7a4 eh5) (by decide) rfl (by simp [Value.category]) rfl ?_
      refine j_icmp_ge (pc := 34) (tgt := 41) dX11_isLess_34 (by decide) (fun c7 => ?_) (fun c7 => ?_)
      · rw [if_pos c7] at H
        refine j_iconst (pc := 41) (v := 0) dX11_isLess_41 (by decide) ?_
        exact j_zreturn (pc := 42) dX11_isLess_42 rfl (rz0 H) (ri_2 H)
      · rw [if_neg c7] at H
        refine j_iconst (pc := 37) (v := 1) dX11_isLess_37 (by decide) ?_
        refine j_goto (pc := 38) (tgt := 42) dX11_isLess_38 (by decide) ?_
        exact j_zreturn (pc := 42) dX11_isLess_42 rfl (rz1 H) (ri_2 H)
    · rw [if_neg c2] at H
      refine Jx.sub (L' := [none, some (.int p2), some (.int p3), some (.int p4)]) (⟨rfl, ⟨rfl, ⟨rfl, trivial⟩⟩⟩) ?_
      exact jX11_isLess_10 p2 p3 p4 h H

noncomputable def fX11_rise_116 (k54 : Int32 → Int32 → Int32 → Int32 → Int32 → Int32 → Int32 → Int32 → HS → Option (Int32 × HS)) (v1 : Int32) (v2 : Int32) (v3 : Int32) (v4 : Int32) (v5 : Int32) (v6 : Int32) (v7 : Int32) (v8 : Int32) (h : HS) : Option (Int32 × HS) := nm (((v7 - v1) &&& v1)) (fun v7_30 => nm (v8 + (1 : Int32)) (fun v8_31 => k54 v1 v2 v3 v4 v5 v6 v7_30 v8_31 h))
set_option maxRecDepth 100000 in
theorem jX11_rise_116 {r : Int32} {h0 : HS} (k54 : Int32 → Int32 → Int32 → Int32 → Int32 → Int32 → Int32 → Int32 → HS → Option (Int32 × HS)) (hk54 : ∀ (v1 : Int32) (v2 : Int32) (v3 : Int32) (v4 : Int32) (v5 : Int32) (v6 : Int32) (v7 : Int32) (v8 : Int32) (h : HS), k54 v1 v2 v3 v4 v5 v6 v7 v8 h = some (r, h0) → Jx skC RX11 cX11_rise 10 (some .int) 3 (some (.int r)) h0 54 [some (.ref 0), some (.int v1), some (.int v2), some (.int v3), some (.int v4), some (.int v5), some (.int v6), some (.int v7), some (.int v8), none] [] h) (v1 : Int32) (v2 : Int32) (v3 : Int32) (v4 : Int32) (v5 : Int32) (v6 : Int32) (v7 : Int32) (v8 : Int32) (h : HS) (H : fX11_rise_116 k54 v1 v2 v3 v4 v5 v6 v7 v8 h = some (r, h0)) : Jx skC RX11 cX11_rise 10 (some .int) 3 (some (.int r)) h0 116 [some (.ref 0), some (.int v1), some (.int v2), some (.int v3), some (.int v4), some (.int v5), some (.int v6), some (.int v7), some (.int v8), none] [] h := by
  unfold fX11_rise_116 at H
  refine j_iload (pc := 116) dX11_rise_116 rfl ?_
  refine j_iload_n (pc := 118) dX11_rise_118 rfl ?_
  refine j_isub (pc := 119) dX11_rise_119 ?_
  refine j_iload_n (pc := 120) dX11_rise_120 rfl ?_
  refine j_iand (pc := 121) dX11_rise_121 ?_
  obtain ⟨v7_30, ev7_30, H⟩ := nm_x H
  refine j_topi ev7_30 ?_
  refine j_istore (pc := 122) (L' := [some (.ref 0), some (.int v1), some (.int v2), some (.int v3), some (.int v4), some (.int v5), some (.int v6), some (.int v7_30), some (.int v8), none]) dX11_rise_122 (by decide) rfl ?_
  obtain ⟨v8_31, ev8_31, H⟩ := nm_x H
  refine j_iinc (pc := 124) (L' := [some (.ref 0), some (.int v1), some (.int v2), some (.int v3), some (.int v4), some (.int v5), some (.int v6), some (.int v7_30), some (.int v8_31), none]) (w := 1) dX11_rise_124 rfl (by decide) (by decide) v8_31 ev8_31 rfl ?_
  refine j_goto (pc := 127) (tgt := 54) dX11_rise_127 (by decide) ?_
  refine Jx.sub (L' := [some (.ref 0), some (.int v1), some (.int v2), some (.int v3), some (.int v4), some (.int v5), some (.int v6), some (.int v7_30), some (.int v8_31), none]) (⟨rfl, ⟨rfl, ⟨rfl, ⟨rfl, ⟨rfl, ⟨rfl, ⟨rfl, ⟨rfl, ⟨rfl, trivial⟩⟩⟩⟩⟩⟩⟩⟩⟩) ?_
  exact hk54 v1 v2 v3 v4 v5 v6 v7_30 v8_31 h H
noncomputable def fX11_rise_54 : Nat → Int32 → Int32 → Int32 → Int32 → Int32 → Int32 → Int32 → Int32 → HS → Option (Int32 × HS)
  | 0, _, _, _, _, _, _, _, _, _ => none
  | n + 1, v1, v2, v3, v4, v5, v6, v7, v8, h => if ((1 : Int32) <<< (v3 &&& 31)) ≤ v8 then (if v5 = (-1 : Int32) then (some ((-2 : Int32), h)) else (bv (fX6_empty h) (fun h16 => bv (fX6_add v5 h16) (fun h17 => bv (fX6_add (((gI h17 1 6) - v6)) h17) (fun h18 => bd (fJ6_bitCount_0f7a4 v5 h18) (fun r20 h19 => some (r20, h19))))))) else (bd (fX11_airForAll v7 v2 h) (fun r22 h21 => if (gI h21 1 6) < r22 then (fX11_rise_116 (fX11_rise_54 n) v1 v2 v3 v4 v5 v6 v7 v8 h21) else (bd (fX11_tanksHave v7 h21) (fun r25 h24 => if r25 ≤ v4 then (fX11_rise_116 (fX11_rise_54 n) v1 v2 v3 v4 v5 v6 v7 v8 h24) else (bd (fX11_isLess v7 r22 v5 v6 h24) (fun r28 h27 => if r28 = 0 then (fX11_rise_116 (fX11_rise_54 n) v1 v2 v3 v4 v5 v6 v7 v8 h27) else (fX11_rise_116 (fX11_rise_54 n) v1 v2 v3 v4 v7 r22 v7 v8 h27)))))))
set_option maxRecDepth 100000 in
theorem jX11_rise_54 {r : Int32} {h0 : HS} : ∀ (n : Nat) (v1 : Int32) (v2 : Int32) (v3 : Int32) (v4 : Int32) (v5 : Int32) (v6 : Int32) (v7 : Int32) (v8 : Int32) (h : HS), fX11_rise_54 n v1 v2 v3 v4 v5 v6 v7 v8 h = some (r, h0) → Jx skC RX11 cX11_rise 10 (some .int) 3 (some (.int r)) h0 54 [some (.ref 0), some (.int v1), some (.int v2), some (.int v3), some (.int v4), some (.int v5), some (.int v6), some (.int v7), some (.int v8), none] [] h := by
  intro n
  induction n with
  | zero => intro v1 v2 v3 v4 v5 v6 v7 v8  h H; cases H
  | succ n ih =>
    intro v1 v2 v3 v4 v5 v6 v7 v8  h H
    rw [fX11_rise_54] at H
    refine j_iload (pc := 54) dX11_rise_54 rfl ?_
    refine j_iconst (pc := 56) (v := 1) dX11_rise_56 (by decide) ?_
    refine j_iload_n (pc := 57) dX11_rise_57 rfl ?_
    refine j_ishl (pc := 58) dX11_rise_58 ?_
    refine j_icmp_ge (pc := 59) (tgt := 130) dX11_rise_59 (by decide) (fun c14 => ?_) (fun c14 => ?_)
    · rw [if_pos c14] at H
      refine j_iload (pc := 130) dX11_rise_130 rfl ?_
      refine j_iconst (pc := 132) (v := -1) dX11_rise_132 (by decide) ?_
      refine j_icmp_ne (pc := 133) (tgt := 139) dX11_rise_133 (by decide) (fun c15 => ?_) (fun c15 => ?_)
      · rw [if_neg c15] at H
        refine j_aload_n (pc := 139) dX11_rise_139 rfl ?_
        refine j_getR (pc := 140) (b := 4) dX11_rise_140 flX11_29 rfl ?_
        obtain ⟨h16, eh16, H⟩ := bv_x H
        refine j_callV (pc := 143) dX11_rise_143 mlX11_207 wyX6_empty (tX6_empty eh16) (by decide) rfl rfl rfl rfl (by simp [Value.category]) rfl ?_
        refine j_aload_n (pc := 146) dX11_rise_146 rfl ?_
        refine j_getR (pc := 147) (b := 4) dX11_rise_147 flX11_29 rfl ?_
        refine j_iload (pc := 150) dX11_rise_150 rfl ?_
        obtain ⟨h17, eh17, H⟩ := bv_x H
        refine j_callV (pc := 152) dX11_rise_152 mlX11_210 wyX6_add (tX6_add eh17) (by decide) rfl rfl rfl rfl (by simp [Value.category]) rfl ?_
        refine j_aload_n (pc := 155) dX11_rise_155 rfl ?_
        refine j_getR (pc := 156) (b := 4) dX11_rise_156 flX11_29 rfl ?_
        refine j_aload_n (pc := 159) dX11_rise_159 rfl ?_
        refine j_getR (pc := 160) (b := 1) dX11_rise_160 flX11_10 rfl ?_
        refine j_getI (pc := 163) dX11_rise_163 flX11_379 rfl ?_
        refine j_iload (pc := 166) dX11_rise_166 rfl ?_
        refine j_isub (pc := 168) dX11_rise_168 ?_
        obtain ⟨h18, eh18, H⟩ := bv_x H
        refine j_callV (pc := 169) dX11_rise_169 mlX11_210 wyX6_add (tX6_add eh18) (by decide) rfl rfl rfl rfl (by simp [Value.category]) rfl ?_
        refine j_iload (pc := 172) dX11_rise_172 rfl ?_
        obtain ⟨r20, h19, eh19, H⟩ := bd_x H
        refine j_callS (pc := 174) dX11_rise_174 mlX11_371 wyJ6_bitCount_0f7a4 (tJ6_bitCount_0f7a4 eh19) (by decide) rfl (by simp [Value.category]) rfl ?_
        exact j_ireturn (pc := 177) dX11_rise_177 rfl (ri_1 H) (ri_2 H)
      · rw [if_pos c15] at H
        refine j_bipush (pc := 136) (v := -2) dX11_rise_136 (by decide) ?_
        exact j_ireturn (pc := 138) dX11_rise_138 rfl (ri_1 H) (ri_2 H)
    · rw [if_neg c14] at H
      refine j_aload_n (pc := 62) dX11_rise_62 rfl ?_
      refine j_iload (pc := 63) dX11_rise_63 rfl ?_
      refine j_iload_n (pc := 65) dX11_rise_65 rfl ?_
      obtain ⟨r22, h21, eh21, H⟩ := bd_x H
      refine j_callV (pc := 66) dX11_rise_66 mlX11_388 wyX11_airForAll (tX11_airForAll eh21) (by decide) rfl rfl rfl rfl (by simp [Value.category]) rfl ?_
      refine j_istore (pc := 69) (L' := [some (.ref 0), some (.int v1), some (.int v2), some (.int v3), some (.int v4), some (.int v5), some (.int v6), some (.int v7), some (.int v8), some (.int r22)]) dX11_rise_69 (by decide) rfl ?_
      refine j_iload (pc := 71) dX11_rise_71 rfl ?_
      refine j_aload_n (pc := 73) dX11_rise_73 rfl ?_
      refine j_getR (pc := 74) (b := 1) dX11_rise_74 flX11_10 rfl ?_
      refine j_getI (pc := 77) dX11_rise_77 flX11_379 rfl ?_
      refine j_icmp_gt (pc := 80) (tgt := 116) dX11_rise_80 (by decide) (fun c23 => ?_) (fun c23 => ?_)
      · rw [if_pos c23] at H
        refine Jx.sub (L' := [some (.ref 0), some (.int v1), some (.int v2), some (.int v3), some (.int v4), some (.int v5), some (.int v6), some (.int v7), some (.int v8), none]) (⟨rfl, ⟨rfl, ⟨rfl, ⟨rfl, ⟨rfl, ⟨rfl, ⟨rfl, ⟨rfl, ⟨rfl, trivial⟩⟩⟩⟩⟩⟩⟩⟩⟩) ?_
        exact jX11_rise_116 _ ih v1 v2 v3 v4 v5 v6 v7 v8 h21 H
      · rw [if_neg c23] at H
        refine j_iload (pc := 83) dX11_rise_83 rfl ?_
        refine j_aload_n (pc := 85) dX11_rise_85 rfl ?_
        refine j_iload (pc := 86) dX11_rise_86 rfl ?_
        obtain ⟨r25, h24, eh24, H⟩ := bd_x H
        refine j_callV (pc := 88) dX11_rise_88 mlX11_391 wyX11_tanksHave (tX11_tanksHave eh24) (by decide) rfl rfl rfl rfl (by simp [Value.category]) rfl ?_
        refine j_icmp_ge (pc := 91) (tgt := 116) dX11_rise_91 (by decide) (fun c26 => ?_) (fun c26 => ?_)
        · rw [if_pos c26] at H
          refine Jx.sub (L' := [some (.ref 0), some (.int v1), some (.int v2), some (.int v3), some (.int v4), some (.int v5), some (.int v6), some (.int v7), some (.int v8), none]) (⟨rfl, ⟨rfl, ⟨rfl, ⟨rfl, ⟨rfl, ⟨rfl, ⟨rfl, ⟨rfl, ⟨rfl, trivial⟩⟩⟩⟩⟩⟩⟩⟩⟩) ?_
          exact jX11_rise_116 _ ih v1 v2 v3 v4 v5 v6 v7 v8 h24 H
        · rw [if_neg c26] at H
          refine j_iload (pc := 94) dX11_rise_94 rfl ?_
          refine j_iload (pc := 96) dX11_rise_96 rfl ?_
          refine j_iload (pc := 98) dX11_rise_98 rfl ?_
          refine j_iload (pc := 100) dX11_rise_100 rfl ?_
          obtain ⟨r28, h27, eh27, H⟩ := bd_x H
          refine j_callS (pc := 102) dX11_rise_102 mlX11_394 wyX11_isLess (tX11_isLess eh27) (by decide) rfl (by simp [Value.category]) rfl ?_
          refine j_if_eq (pc := 105) (tgt := 116) dX11_rise_105 (by decide) (fun c29 => ?_) (fun c29 => ?_)
          · rw [if_pos c29] at H
            refine Jx.sub (L' := [some (.ref 0), some (.int v1), some (.int v2), some (.int v3), some (.int v4), some (.int v5), some (.int v6), some (.int v7), some (.int v8), none]) (⟨rfl, ⟨rfl, ⟨rfl, ⟨rfl, ⟨rfl, ⟨rfl, ⟨rfl, ⟨rfl, ⟨rfl, trivial⟩⟩⟩⟩⟩⟩⟩⟩⟩) ?_
            exact jX11_rise_116 _ ih v1 v2 v3 v4 v5 v6 v7 v8 h27 H
          · rw [if_neg c29] at H
            refine j_iload (pc := 108) dX11_rise_108 rfl ?_
            refine j_istore (pc := 110) (L' := [some (.ref 0), some (.int v1), some (.int v2), some (.int v3), some (.int v4), some (.int v7), some (.int v6), some (.int v7), some (.int v8), some (.int r22)]) dX11_rise_110 (by decide) rfl ?_
            refine j_iload (pc := 112) dX11_rise_112 rfl ?_
            refine j_istore (pc := 114) (L' := [some (.ref 0), some (.int v1), some (.int v2), some (.int v3), some (.int v4), some (.int v7), some (.int r22), some (.int v7), some (.int v8), some (.int r22)]) dX11_rise_114 (by decide) rfl ?_
            refine Jx.sub (L' := [some (.ref 0), some (.int v1), some (.int v2), some (.int v3), some (.int v4), some (.int v7), some (.int r22), some (.int v7), some (.int v8), none]) (⟨rfl, ⟨rfl, ⟨rfl, ⟨rfl, ⟨rfl, ⟨rfl, ⟨rfl, ⟨rfl, ⟨rfl, trivial⟩⟩⟩⟩⟩⟩⟩⟩⟩) ?_
            exact jX11_rise_116 _ ih v1 v2 v3 v4 v7 r22 v7 v8 h27 H
noncomputable def fX11_rise (p1 : Int32) (p2 : Int32) (h : HS) : Option (Int32 × HS) := bd (fJ6_bitCount_0f7a4 p1 h) (fun r2 h1 => bd (fX11_areTanks p1 h1) (fun r4 h3 => if r4 = 0 then (some ((-1 : Int32), h3)) else (bd (fX11_between r2 (1 : Int32) (8 : Int32) h3) (fun r7 h6 => if r7 = 0 then (some ((-1 : Int32), h6)) else (bd (fX11_isDepth p2 h6) (fun r10 h9 => if r10 = 0 then (some ((-1 : Int32), h9)) else (bd (fX0_heavyAt p2 h9) (fun r13 h12 => fX11_rise_54 FU p1 p2 r2 r13 (-1 : Int32) (0 : Int32) (0 : Int32) (0 : Int32) h12))))))))
set_option maxRecDepth 100000 in
theorem tX11_rise {p1 : Int32} {p2 : Int32} {r : Int32} {h h0 : HS} (H : fX11_rise p1 p2 h = some (r, h0)) : Cn skC yX11_rise cX11_rise 10 (some .int) 3 [.ref 0, .int p1, .int p2] h (some (.int r)) h0 := by
  refine Cn_of (L := [some (.ref 0), some (.int p1), some (.int p2), none, none, none, none, none, none, none]) (by decide +kernel) (by simp [lg_sl, Value.category]) (fun ad => by simp [lg_sl, tv, Value.category]) (⟨rfl, ⟨rfl, ⟨rfl, trivial⟩⟩⟩) ?_
  unfold fX11_rise at H
  refine j_iload_n (pc := 0) dX11_rise_0 rfl ?_
  obtain ⟨r2, h1, eh1, H⟩ := bd_x H
  refine j_callS (pc := 1) dX11_rise_1 mlX11_371 wyJ6_bitCount_0f7a4 (tJ6_bitCount_0f7a4 eh1) (by decide) rfl (by simp [Value.category]) rfl ?_
  refine j_istore_n (pc := 4) (L' := [some (.ref 0), some (.int p1), some (.int p2), some (.int r2), none, none, none, none, none, none]) dX11_rise_4 (by decide) rfl ?_
  refine j_aload_n (pc := 5) dX11_rise_5 rfl ?_
  refine j_iload_n (pc := 6) dX11_rise_6 rfl ?_
  obtain ⟨r4, h3, eh3, H⟩ := bd_x H
  refine j_callV (pc := 7) dX11_rise_7 mlX11_385 wyX11_areTanks (tX11_areTanks eh3) (by decide) rfl rfl rfl rfl (by simp [Value.category]) rfl ?_
  refine j_if_eq (pc := 10) (tgt := 30) dX11_rise_10 (by decide) (fun c5 => ?_) (fun c5 => ?_)
  · rw [if_pos c5] at H
    refine j_iconst (pc := 30) (v := -1) dX11_rise_30 (by decide) ?_
    exact j_ireturn (pc := 31) dX11_rise_31 rfl (ri_1 H) (ri_2 H)
  · rw [if_neg c5] at H
    refine j_iload_n (pc := 13) dX11_rise_13 rfl ?_
    refine j_iconst (pc := 14) (v := 1) dX11_rise_14 (by decide) ?_
    refine j_bipush (pc := 15) (v := 8) dX11_rise_15 (by decide) ?_
    obtain ⟨r7, h6, eh6, H⟩ := bd_x H
    refine j_callS (pc := 17) dX11_rise_17 mlX11_81 wyX11_between (tX11_between eh6) (by decide) rfl (by simp [Value.category]) rfl ?_
    refine j_if_eq (pc := 20) (tgt := 30) dX11_rise_20 (by decide) (fun c8 => ?_) (fun c8 => ?_)
    · rw [if_pos c8] at H
      refine j_iconst (pc := 30) (v := -1) dX11_rise_30 (by decide) ?_
      exact j_ireturn (pc := 31) dX11_rise_31 rfl (ri_1 H) (ri_2 H)
    · rw [if_neg c8] at H
      refine j_iload_n (pc := 23) dX11_rise_23 rfl ?_
      obtain ⟨r10, h9, eh9, H⟩ := bd_x H
      refine j_callS (pc := 24) dX11_rise_24 mlX11_142 wyX11_isDepth (tX11_isDepth eh9) (by decide) rfl (by simp [Value.category]) rfl ?_
      refine j_if_ne (pc := 27) (tgt := 32) dX11_rise_27 (by decide) (fun c11 => ?_) (fun c11 => ?_)
      · rw [if_neg c11] at H
        refine j_aload_n (pc := 32) dX11_rise_32 rfl ?_
        refine j_getR (pc := 33) (b := 1) dX11_rise_33 flX11_10 rfl ?_
        refine j_iload_n (pc := 36) dX11_rise_36 rfl ?_
        obtain ⟨r13, h12, eh12, H⟩ := bd_x H
        refine j_callV (pc := 37) dX11_rise_37 mlX11_174 wyX0_heavyAt (tX0_heavyAt eh12) (by decide) rfl rfl rfl rfl (by simp [Value.category]) rfl ?_
        refine j_istore (pc := 40) (L' := [some (.ref 0), some (.int p1), some (.int p2), some (.int r2), some (.int r13), none, none, none, none, none]) dX11_rise_40 (by decide) rfl ?_
        refine j_iconst (pc := 42) (v := -1) dX11_rise_42 (by decide) ?_
        refine j_istore (pc := 43) (L' := [some (.ref 0), some (.int p1), some (.int p2), some (.int r2), some (.int r13), some (.int (-1 : Int32)), none, none, none, none]) dX11_rise_43 (by decide) rfl ?_
        refine j_iconst (pc := 45) (v := 0) dX11_rise_45 (by decide) ?_
        refine j_istore (pc := 46) (L' := [some (.ref 0), some (.int p1), some (.int p2), some (.int r2), some (.int r13), some (.int (-1 : Int32)), some (.int (0 : Int32)), none, none, none]) dX11_rise_46 (by decide) rfl ?_
        refine j_iconst (pc := 48) (v := 0) dX11_rise_48 (by decide) ?_
        refine j_istore (pc := 49) (L' := [some (.ref 0), some (.int p1), some (.int p2), some (.int r2), some (.int r13), some (.int (-1 : Int32)), some (.int (0 : Int32)), some (.int (0 : Int32)), none, none]) dX11_rise_49 (by decide) rfl ?_
        refine j_iconst (pc := 51) (v := 0) dX11_rise_51 (by decide) ?_
        refine j_istore (pc := 52) (L' := [some (.ref 0), some (.int p1), some (.int p2), some (.int r2), some (.int r13), some (.int (-1 : Int32)), some (.int (0 : Int32)), some (.int (0 : Int32)), some (.int (0 : Int32)), none]) dX11_rise_52 (by decide) rfl ?_
        refine Jx.sub (L' := [some (.ref 0), some (.int p1), some (.int p2), some (.int r2), some (.int r13), some (.int (-1 : Int32)), some (.int (0 : Int32)), some (.int (0 : Int32)), some (.int (0 : Int32)), none]) (⟨rfl, ⟨rfl, ⟨rfl, ⟨rfl, ⟨rfl, ⟨rfl, ⟨rfl, ⟨rfl, ⟨rfl, trivial⟩⟩⟩⟩⟩⟩⟩⟩⟩) ?_
        exact jX11_rise_54 FU p1 p2 r2 r13 (-1 : Int32) (0 : Int32) (0 : Int32) (0 : Int32) h12 H
      · rw [if_pos c11] at H
        refine j_iconst (pc := 30) (v := -1) dX11_rise_30 (by decide) ?_
        exact j_ireturn (pc := 31) dX11_rise_31 rfl (ri_1 H) (ri_2 H)

noncomputable def fX11_times_62 (k22 : Int32 → Int32 → Int32 → Int32 → HS → Option (Int32 × HS)) (v1 : Int32) (v2 : Int32) (v4 : Int32) (s1 : Int32) (s0 : Int32) (h : HS) : Option (Int32 × HS) := nm ((s0 + s1)) (fun v3_17 => nm (v4 + (1 : Int32)) (fun v4_18 => k22 v1 v2 v3_17 v4_18 h))
set_option maxRecDepth 100000 in
theorem jX11_times_62 {r : Int32} {h0 : HS} (k22 : Int32 → Int32 → Int32 → Int32 → HS → Option (Int32 × HS)) (hk22 : ∀ (v1 : Int32) (v2 : Int32) (v3 : Int32) (v4 : Int32) (h : HS), k22 v1 v2 v3 v4 h = some (r, h0) → Jx skC RX11 cX11_times 5 (some .int) 2 (some (.int r)) h0 22 [some (.ref 0), some (.int v1), some (.int v2), some (.int v3), some (.int v4)] [] h) (v1 : Int32) (v2 : Int32) (v4 : Int32) (s1 : Int32) (s0 : Int32) (h : HS) (H : fX11_times_62 k22 v1 v2 v4 s1 s0 h = some (r, h0)) : Jx skC RX11 cX11_times 5 (some .int) 2 (some (.int r)) h0 62 [some (.ref 0), some (.int v1), some (.int v2), none, some (.int v4)] [.int s1, .int s0] h := by
  unfold fX11_times_62 at H
  refine j_iadd (pc := 62) dX11_times_62 ?_
  obtain ⟨v3_17, ev3_17, H⟩ := nm_x H
  refine j_topi ev3_17 ?_
  refine j_istore_n (pc := 63) (L' := [some (.ref 0), some (.int v1), some (.int v2), some (.int v3_17), some (.int v4)]) dX11_times_63 (by decide) rfl ?_
  obtain ⟨v4_18, ev4_18, H⟩ := nm_x H
  refine j_iinc (pc := 64) (L' := [some (.ref 0), some (.int v1), some (.int v2), some (.int v3_17), some (.int v4_18)]) (w := 1) dX11_times_64 rfl (by decide) (by decide) v4_18 ev4_18 rfl ?_
  refine j_goto (pc := 67) (tgt := 22) dX11_times_67 (by decide) ?_
  refine Jx.sub (L' := [some (.ref 0), some (.int v1), some (.int v2), some (.int v3_17), some (.int v4_18)]) (⟨rfl, ⟨rfl, ⟨rfl, ⟨rfl, ⟨rfl, trivial⟩⟩⟩⟩⟩) ?_
  exact hk22 v1 v2 v3_17 v4_18 h H
noncomputable def fX11_times_22 : Nat → Int32 → Int32 → Int32 → Int32 → HS → Option (Int32 × HS)
  | 0, _, _, _, _, _ => none
  | n + 1, v1, v2, v3, v4, h => if (gI h 2 8) ≤ v4 then (if 0 < v3 then (bv (fX6_empty h) (fun h9 => ck (nz v3) (bv (fX6_add ((irm (gI h9 1 6) v3)) h9) (fun h11 => ck (nz v3) (some (((gI h11 1 6) / v3), h11)))))) else (some ((-1 : Int32), h))) else (if ((v1 >>> (v4 &&& 31)) &&& (1 : Int32)) = 0 then (fX11_times_62 (fX11_times_22 n) v1 v2 v4 (0 : Int32) v3 h) else (ck (inb v4 15) (bd (fX11_airFor ((gI h 29 v4.toNatClampNeg)) v2 h) (fun r16 h15 => fX11_times_62 (fX11_times_22 n) v1 v2 v4 r16 v3 h15))))
set_option maxRecDepth 100000 in
theorem jX11_times_22 {r : Int32} {h0 : HS} : ∀ (n : Nat) (v1 : Int32) (v2 : Int32) (v3 : Int32) (v4 : Int32) (h : HS), fX11_times_22 n v1 v2 v3 v4 h = some (r, h0) → Jx skC RX11 cX11_times 5 (some .int) 2 (some (.int r)) h0 22 [some (.ref 0), some (.int v1), some (.int v2), some (.int v3), some (.int v4)] [] h := by
  intro n
  induction n with
  | zero => intro v1 v2 v3 v4  h H; cases H
  | succ n ih =>
    intro v1 v2 v3 v4  h H
    rw [fX11_times_22] at H
    refine j_iload (pc := 22) dX11_times_22 rfl ?_
    refine j_aload_n (pc := 24) dX11_times_24 rfl ?_
    refine j_getR (pc := 25) (b := 2) dX11_times_25 flX11_20 rfl ?_
    refine j_getI (pc := 28) dX11_times_28 flX11_104 rfl ?_
    refine j_icmp_ge (pc := 31) (tgt := 70) dX11_times_31 (by decide) (fun c7 => ?_) (fun c7 => ?_)
    · rw [if_pos c7] at H
      refine j_iload_n (pc := 70) dX11_times_70 rfl ?_
      refine j_if_gt (pc := 71) (tgt := 76) dX11_times_71 (by decide) (fun c8 => ?_) (fun c8 => ?_)
      · rw [if_pos c8] at H
        refine j_aload_n (pc := 76) dX11_times_76 rfl ?_
        refine j_getR (pc := 77) (b := 4) dX11_times_77 flX11_29 rfl ?_
        obtain ⟨h9, eh9, H⟩ := bv_x H
        refine j_callV (pc := 80) dX11_times_80 mlX11_207 wyX6_empty (tX6_empty eh9) (by decide) rfl rfl rfl rfl (by simp [Value.category]) rfl ?_
        refine j_aload_n (pc := 83) dX11_times_83 rfl ?_
        refine j_getR (pc := 84) (b := 4) dX11_times_84 flX11_29 rfl ?_
        refine j_aload_n (pc := 87) dX11_times_87 rfl ?_
        refine j_getR (pc := 88) (b := 1) dX11_times_88 flX11_10 rfl ?_
        refine j_getI (pc := 91) dX11_times_91 flX11_379 rfl ?_
        refine j_iload_n (pc := 94) dX11_times_94 rfl ?_
        obtain ⟨b10, H⟩ := ck_x H
        refine j_irem (pc := 95) dX11_times_95 (nz_x b10) ?_
        obtain ⟨h11, eh11, H⟩ := bv_x H
        refine j_callV (pc := 96) dX11_times_96 mlX11_210 wyX6_add (tX6_add eh11) (by decide) rfl rfl rfl rfl (by simp [Value.category]) rfl ?_
        refine j_aload_n (pc := 99) dX11_times_99 rfl ?_
        refine j_getR (pc := 100) (b := 1) dX11_times_100 flX11_10 rfl ?_
        refine j_getI (pc := 103) dX11_times_103 flX11_379 rfl ?_
        refine j_iload_n (pc := 106) dX11_times_106 rfl ?_
        obtain ⟨b12, H⟩ := ck_x H
        refine j_idiv (pc := 107) dX11_times_107 (nz_x b12) ?_
        exact j_ireturn (pc := 108) dX11_times_108 rfl (ri_1 H) (ri_2 H)
      · rw [if_neg c8] at H
        refine j_iconst (pc := 74) (v := -1) dX11_times_74 (by decide) ?_
        exact j_ireturn (pc := 75) dX11_times_75 rfl (ri_1 H) (ri_2 H)
    · rw [if_neg c7] at H
      refine j_iload_n (pc := 34) dX11_times_34 rfl ?_
      refine j_iload_n (pc := 35) dX11_times_35 rfl ?_
      refine j_iload (pc := 36) dX11_times_36 rfl ?_
      refine j_ishr (pc := 38) dX11_times_38 ?_
      refine j_iconst (pc := 39) (v := 1) dX11_times_39 (by decide) ?_
      refine j_iand (pc := 40) dX11_times_40 ?_
      refine j_if_ne (pc := 41) (tgt := 48) dX11_times_41 (by decide) (fun c13 => ?_) (fun c13 => ?_)
      · rw [if_neg c13] at H
        refine j_aload_n (pc := 48) dX11_times_48 rfl ?_
        refine j_getR (pc := 49) (b := 2) dX11_times_49 flX11_20 rfl ?_
        refine j_getR (pc := 52) (b := 29) dX11_times_52 flX11_95 rfl ?_
        refine j_iload (pc := 55) dX11_times_55 rfl ?_
        obtain ⟨b14, H⟩ := ck_x H
        refine j_iaload (pc := 57) dX11_times_57 rfl b14 rfl ?_
        refine j_iload_n (pc := 58) dX11_times_58 rfl ?_
        obtain ⟨r16, h15, eh15, H⟩ := bd_x H
        refine j_callS (pc := 59) dX11_times_59 mlX11_382 wyX11_airFor (tX11_airFor eh15) (by decide) rfl (by simp [Value.category]) rfl ?_
        refine Jx.sub (L' := [some (.ref 0), some (.int v1), some (.int v2), none, some (.int v4)]) (⟨rfl, ⟨rfl, ⟨rfl, ⟨rfl, trivial⟩⟩⟩⟩) ?_
        exact jX11_times_62 _ ih v1 v2 v4 r16 v3 h15 H
      · rw [if_pos c13] at H
        refine j_iconst (pc := 44) (v := 0) dX11_times_44 (by decide) ?_
        refine j_goto (pc := 45) (tgt := 62) dX11_times_45 (by decide) ?_
        refine Jx.sub (L' := [some (.ref 0), some (.int v1), some (.int v2), none, some (.int v4)]) (⟨rfl, ⟨rfl, ⟨rfl, ⟨rfl, trivial⟩⟩⟩⟩) ?_
        exact jX11_times_62 _ ih v1 v2 v4 (0 : Int32) v3 h H
noncomputable def fX11_times (p1 : Int32) (p2 : Int32) (h : HS) : Option (Int32 × HS) := bd (fX11_areTanks p1 h) (fun r2 h1 => if r2 = 0 then (some ((-1 : Int32), h1)) else (bd (fX11_isDepth p2 h1) (fun r5 h4 => if r5 = 0 then (some ((-1 : Int32), h4)) else (fX11_times_22 FU p1 p2 (0 : Int32) (0 : Int32) h4))))
set_option maxRecDepth 100000 in
theorem tX11_times {p1 : Int32} {p2 : Int32} {r : Int32} {h h0 : HS} (H : fX11_times p1 p2 h = some (r, h0)) : Cn skC yX11_times cX11_times 5 (some .int) 2 [.ref 0, .int p1, .int p2] h (some (.int r)) h0 := by
  refine Cn_of (L := [some (.ref 0), some (.int p1), some (.int p2), none, none]) (by decide +kernel) (by simp [lg_sl, Value.category]) (fun ad => by simp [lg_sl, tv, Value.category]) (⟨rfl, ⟨rfl, ⟨rfl, trivial⟩⟩⟩) ?_
  unfold fX11_times at H
  refine j_aload_n (pc := 0) dX11_times_0 rfl ?_
  refine j_iload_n (pc := 1) dX11_times_1 rfl ?_
  obtain ⟨r2, h1, eh1, H⟩ := bd_x H
  refine j_callV (pc := 2) dX11_times_2 mlX11_385 wyX11_areTanks (tX11_areTanks eh1) (by decide) rfl rfl rfl rfl (by simp [Value.category]) rfl ?_
  refine j_if_eq (pc := 5) (tgt := 15) dX11_times_5 (by decide) (fun c3 => ?_) (fun c3 => ?_)
  · rw [if_pos c3] at H
    refine j_iconst (pc := 15) (v := -1) dX11_times_15 (by decide) ?_
    exact j_ireturn (pc := 16) dX11_times_16 rfl (ri_1 H) (ri_2 H)
  · rw [if_neg c3] at H
    refine j_iload_n (pc := 8) dX11_times_8 rfl ?_
    obtain ⟨r5, h4, eh4, H⟩ := bd_x H
    refine j_callS (pc := 9) dX11_times_9 mlX11_142 wyX11_isDepth (tX11_isDepth eh4) (by decide) rfl (by simp [Value.category]) rfl ?_
    refine j_if_ne (pc := 12) (tgt := 17) dX11_times_12 (by decide) (fun c6 => ?_) (fun c6 => ?_)
    · rw [if_neg c6] at H
      refine j_iconst (pc := 17) (v := 0) dX11_times_17 (by decide) ?_
      refine j_istore_n (pc := 18) (L' := [some (.ref 0), some (.int p1), some (.int p2), some (.int (0 : Int32)), none]) dX11_times_18 (by decide) rfl ?_
      refine j_iconst (pc := 19) (v := 0) dX11_times_19 (by decide) ?_
      refine j_istore (pc := 20) (L' := [some (.ref 0), some (.int p1), some (.int p2), some (.int (0 : Int32)), some (.int (0 : Int32))]) dX11_times_20 (by decide) rfl ?_
      refine Jx.sub (L' := [some (.ref 0), some (.int p1), some (.int p2), some (.int (0 : Int32)), some (.int (0 : Int32))]) (⟨rfl, ⟨rfl, ⟨rfl, ⟨rfl, ⟨rfl, trivial⟩⟩⟩⟩⟩) ?_
      exact jX11_times_22 FU p1 p2 (0 : Int32) (0 : Int32) h4 H
    · rw [if_pos c6] at H
      refine j_iconst (pc := 15) (v := -1) dX11_times_15 (by decide) ?_
      exact j_ireturn (pc := 16) dX11_times_16 rfl (ri_1 H) (ri_2 H)

noncomputable def fX11_eats_43 (v1 : Int32) (v2 : Int32) (v3 : Int32) (v4 : Int32) (s0 : Int32) (h : HS) : Option (Int32 × HS) := bd (fX4_isA v1 (1 : Int32) h) (fun r10 h9 => if r10 = 0 then (some ((0 : Int32), h9)) else (bd (fX11_between v2 (0 : Int32) (50 : Int32) h9) (fun r13 h12 => if r13 = 0 then (some ((0 : Int32), h12)) else (bd (fX11_between v3 (0 : Int32) (100 : Int32) h12) (fun r16 h15 => if r16 = 0 then (some ((0 : Int32), h15)) else (if s0 = 0 then (some ((0 : Int32), h15)) else (ck (inb v1 15) (nm (pI h15 63 v1.toNatClampNeg v2) (fun h19 => ck (inb v1 15) (nm (pI h19 64 v1.toNatClampNeg v3) (fun h21 => ck (inb v1 15) (nm (pI h21 65 v1.toNatClampNeg v4) (fun h23 => some ((1 : Int32), h23))))))))))))))
set_option maxRecDepth 100000 in
theorem jX11_eats_43 {r : Int32} {h0 : HS} (v1 : Int32) (v2 : Int32) (v3 : Int32) (v4 : Int32) (s0 : Int32) (h : HS) (H : fX11_eats_43 v1 v2 v3 v4 s0 h = some (r, h0)) : Jx skC RX11 cX11_eats 6 (some .boolean) 2 (some (.int r)) h0 43 [some (.ref 0), some (.int v1), some (.int v2), some (.int v3), some (.int v4), none] [.int s0] h := by
  unfold fX11_eats_43 at H
  refine j_istore (pc := 43) (L' := [some (.ref 0), some (.int v1), some (.int v2), some (.int v3), some (.int v4), some (.int s0)]) dX11_eats_43 (by decide) rfl ?_
  refine j_aload_n (pc := 45) dX11_eats_45 rfl ?_
  refine j_getR (pc := 46) (b := 2) dX11_eats_46 flX11_20 rfl ?_
  refine j_iload_n (pc := 49) dX11_eats_49 rfl ?_
  refine j_iconst (pc := 50) (v := 1) dX11_eats_50 (by decide) ?_
  obtain ⟨r10, h9, eh9, H⟩ := bd_x H
  refine j_callV (pc := 51) dX11_eats_51 mlX11_295 wyX4_isA (tX4_isA eh9) (by decide) rfl rfl rfl rfl (by simp [Value.category]) rfl ?_
  refine j_if_eq (pc := 54) (tgt := 82) dX11_eats_54 (by decide) (fun c11 => ?_) (fun c11 => ?_)
  · rw [if_pos c11] at H
    refine j_iconst (pc := 82) (v := 0) dX11_eats_82 (by decide) ?_
    exact j_zreturn (pc := 83) dX11_eats_83 rfl (rz0 H) (ri_2 H)
  · rw [if_neg c11] at H
    refine j_iload_n (pc := 57) dX11_eats_57 rfl ?_
    refine j_iconst (pc := 58) (v := 0) dX11_eats_58 (by decide) ?_
    refine j_bipush (pc := 59) (v := 50) dX11_eats_59 (by decide) ?_
    obtain ⟨r13, h12, eh12, H⟩ := bd_x H
    refine j_callS (pc := 61) dX11_eats_61 mlX11_81 wyX11_between (tX11_between eh12) (by decide) rfl (by simp [Value.category]) rfl ?_
    refine j_if_eq (pc := 64) (tgt := 82) dX11_eats_64 (by decide) (fun c14 => ?_) (fun c14 => ?_)
    · rw [if_pos c14] at H
      refine j_iconst (pc := 82) (v := 0) dX11_eats_82 (by decide) ?_
      exact j_zreturn (pc := 83) dX11_eats_83 rfl (rz0 H) (ri_2 H)
    · rw [if_neg c14] at H
      refine j_iload_n (pc := 67) dX11_eats_67 rfl ?_
      refine j_iconst (pc := 68) (v := 0) dX11_eats_68 (by decide) ?_
      refine j_bipush (pc := 69) (v := 100) dX11_eats_69 (by decide) ?_
      obtain ⟨r16, h15, eh15, H⟩ := bd_x H
      refine j_callS (pc := 71) dX11_eats_71 mlX11_81 wyX11_between (tX11_between eh15) (by decide) rfl (by simp [Value.category]) rfl ?_
      refine j_if_eq (pc := 74) (tgt := 82) dX11_eats_74 (by decide) (fun c17 => ?_) (fun c17 => ?_)
      · rw [if_pos c17] at H
        refine j_iconst (pc := 82) (v := 0) dX11_eats_82 (by decide) ?_
        exact j_zreturn (pc := 83) dX11_eats_83 rfl (rz0 H) (ri_2 H)
      · rw [if_neg c17] at H
        refine j_iload (pc := 77) dX11_eats_77 rfl ?_
        refine j_if_ne (pc := 79) (tgt := 84) dX11_eats_79 (by decide) (fun c18 => ?_) (fun c18 => ?_)
        · rw [if_neg c18] at H
          refine j_aload_n (pc := 84) dX11_eats_84 rfl ?_
          refine j_getR (pc := 85) (b := 9) dX11_eats_85 flX11_70 rfl ?_
          refine j_getR (pc := 88) (b := 63) dX11_eats_88 flX11_398 rfl ?_
          refine j_iload_n (pc := 91) dX11_eats_91 rfl ?_
          refine j_iload_n (pc := 92) dX11_eats_92 rfl ?_
          obtain ⟨b20, H⟩ := ck_x H
          obtain ⟨h19, eh19, H⟩ := nm_x H
          refine j_iastore (pc := 93) dX11_eats_93 rfl b20 rfl h19 eh19 ?_
          refine j_aload_n (pc := 94) dX11_eats_94 rfl ?_
          refine j_getR (pc := 95) (b := 9) dX11_eats_95 flX11_70 rfl ?_
          refine j_getR (pc := 98) (b := 64) dX11_eats_98 flX11_401 rfl ?_
          refine j_iload_n (pc := 101) dX11_eats_101 rfl ?_
          refine j_iload_n (pc := 102) dX11_eats_102 rfl ?_
          obtain ⟨b22, H⟩ := ck_x H
          obtain ⟨h21, eh21, H⟩ := nm_x H
          refine j_iastore (pc := 103) dX11_eats_103 rfl b22 rfl h21 eh21 ?_
          refine j_aload_n (pc := 104) dX11_eats_104 rfl ?_
          refine j_getR (pc := 105) (b := 9) dX11_eats_105 flX11_70 rfl ?_
          refine j_getR (pc := 108) (b := 65) dX11_eats_108 flX11_404 rfl ?_
          refine j_iload_n (pc := 111) dX11_eats_111 rfl ?_
          refine j_iload (pc := 112) dX11_eats_112 rfl ?_
          obtain ⟨b24, H⟩ := ck_x H
          obtain ⟨h23, eh23, H⟩ := nm_x H
          refine j_iastore (pc := 114) dX11_eats_114 rfl b24 rfl h23 eh23 ?_
          refine j_iconst (pc := 115) (v := 1) dX11_eats_115 (by decide) ?_
          exact j_zreturn (pc := 116) dX11_eats_116 rfl (rz1 H) (ri_2 H)
        · rw [if_pos c18] at H
          refine j_iconst (pc := 82) (v := 0) dX11_eats_82 (by decide) ?_
          exact j_zreturn (pc := 83) dX11_eats_83 rfl (rz0 H) (ri_2 H)
noncomputable def fX11_eats_42 (v1 : Int32) (v2 : Int32) (v3 : Int32) (v4 : Int32) (h : HS) : Option (Int32 × HS) := fX11_eats_43 v1 v2 v3 v4 (0 : Int32) h
set_option maxRecDepth 100000 in
theorem jX11_eats_42 {r : Int32} {h0 : HS} (v1 : Int32) (v2 : Int32) (v3 : Int32) (v4 : Int32) (h : HS) (H : fX11_eats_42 v1 v2 v3 v4 h = some (r, h0)) : Jx skC RX11 cX11_eats 6 (some .boolean) 2 (some (.int r)) h0 42 [some (.ref 0), some (.int v1), some (.int v2), some (.int v3), some (.int v4), none] [] h := by
  unfold fX11_eats_42 at H
  refine j_iconst (pc := 42) (v := 0) dX11_eats_42 (by decide) ?_
  refine Jx.sub (L' := [some (.ref 0), some (.int v1), some (.int v2), some (.int v3), some (.int v4), none]) (⟨rfl, ⟨rfl, ⟨rfl, ⟨rfl, ⟨rfl, trivial⟩⟩⟩⟩⟩) ?_
  exact jX11_eats_43 v1 v2 v3 v4 (0 : Int32) h H
noncomputable def fX11_eats_38 (v1 : Int32) (v2 : Int32) (v3 : Int32) (v4 : Int32) (h : HS) : Option (Int32 × HS) := fX11_eats_43 v1 v2 v3 v4 (1 : Int32) h
set_option maxRecDepth 100000 in
theorem jX11_eats_38 {r : Int32} {h0 : HS} (v1 : Int32) (v2 : Int32) (v3 : Int32) (v4 : Int32) (h : HS) (H : fX11_eats_38 v1 v2 v3 v4 h = some (r, h0)) : Jx skC RX11 cX11_eats 6 (some .boolean) 2 (some (.int r)) h0 38 [some (.ref 0), some (.int v1), some (.int v2), some (.int v3), some (.int v4), none] [] h := by
  unfold fX11_eats_38 at H
  refine j_iconst (pc := 38) (v := 1) dX11_eats_38 (by decide) ?_
  refine j_goto (pc := 39) (tgt := 43) dX11_eats_39 (by decide) ?_
  refine Jx.sub (L' := [some (.ref 0), some (.int v1), some (.int v2), some (.int v3), some (.int v4), none]) (⟨rfl, ⟨rfl, ⟨rfl, ⟨rfl, ⟨rfl, trivial⟩⟩⟩⟩⟩) ?_
  exact jX11_eats_43 v1 v2 v3 v4 (1 : Int32) h H
noncomputable def fX11_eats (p1 : Int32) (p2 : Int32) (p3 : Int32) (p4 : Int32) (h : HS) : Option (Int32 × HS) := if p4 = (-1 : Int32) then (fX11_eats_38 p1 p2 p3 p4 h) else (if p4 = p1 then (fX11_eats_42 p1 p2 p3 p4 h) else (bd (fX4_isA p4 (1 : Int32) h) (fun r4 h3 => if r4 = 0 then (bd (fX4_isA p4 (0 : Int32) h3) (fun r7 h6 => if r7 = 0 then (fX11_eats_42 p1 p2 p3 p4 h6) else (fX11_eats_38 p1 p2 p3 p4 h6))) else (fX11_eats_38 p1 p2 p3 p4 h3))))
set_option maxRecDepth 100000 in
theorem tX11_eats {p1 : Int32} {p2 : Int32} {p3 : Int32} {p4 : Int32} {r : Int32} {h h0 : HS} (H : fX11_eats p1 p2 p3 p4 h = some (r, h0)) : Cn skC yX11_eats cX11_eats 6 (some .boolean) 2 [.ref 0, .int p1, .int p2, .int p3, .int p4] h (some (.int r)) h0 := by
  refine Cn_of (L := [some (.ref 0), some (.int p1), some (.int p2), some (.int p3), some (.int p4), none]) (by decide +kernel) (by simp [lg_sl, Value.category]) (fun ad => by simp [lg_sl, tv, Value.category]) (⟨rfl, ⟨rfl, ⟨rfl, ⟨rfl, ⟨rfl, trivial⟩⟩⟩⟩⟩) ?_
  unfold fX11_eats at H
  refine j_iload (pc := 0) dX11_eats_0 rfl ?_
  refine j_iconst (pc := 2) (v := -1) dX11_eats_2 (by decide) ?_
  refine j_icmp_eq (pc := 3) (tgt := 38) dX11_eats_3 (by decide) (fun c1 => ?_) (fun c1 => ?_)
  · rw [if_pos c1] at H
    refine Jx.sub (L' := [some (.ref 0), some (.int p1), some (.int p2), some (.int p3), some (.int p4), none]) (⟨rfl, ⟨rfl, ⟨rfl, ⟨rfl, ⟨rfl, trivial⟩⟩⟩⟩⟩) ?_
    exact jX11_eats_38 p1 p2 p3 p4 h H
  · rw [if_neg c1] at H
    refine j_iload (pc := 6) dX11_eats_6 rfl ?_
    refine j_iload_n (pc := 8) dX11_eats_8 rfl ?_
    refine j_icmp_eq (pc := 9) (tgt := 42) dX11_eats_9 (by decide) (fun c2 => ?_) (fun c2 => ?_)
    · rw [if_pos c2] at H
      refine Jx.sub (L' := [some (.ref 0), some (.int p1), some (.int p2), some (.int p3), some (.int p4), none]) (⟨rfl, ⟨rfl, ⟨rfl, ⟨rfl, ⟨rfl, trivial⟩⟩⟩⟩⟩) ?_
      exact jX11_eats_42 p1 p2 p3 p4 h H
    · rw [if_neg c2] at H
      refine j_aload_n (pc := 12) dX11_eats_12 rfl ?_
      refine j_getR (pc := 13) (b := 2) dX11_eats_13 flX11_20 rfl ?_
      refine j_iload (pc := 16) dX11_eats_16 rfl ?_
      refine j_iconst (pc := 18) (v := 1) dX11_eats_18 (by decide) ?_
      obtain ⟨r4, h3, eh3, H⟩ := bd_x H
      refine j_callV (pc := 19) dX11_eats_19 mlX11_295 wyX4_isA (tX4_isA eh3) (by decide) rfl rfl rfl rfl (by simp [Value.category]) rfl ?_
      refine j_if_ne (pc := 22) (tgt := 38) dX11_eats_22 (by decide) (fun c5 => ?_) (fun c5 => ?_)
      · rw [if_neg c5] at H
        refine Jx.sub (L' := [some (.ref 0), some (.int p1), some (.int p2), some (.int p3), some (.int p4), none]) (⟨rfl, ⟨rfl, ⟨rfl, ⟨rfl, ⟨rfl, trivial⟩⟩⟩⟩⟩) ?_
        exact jX11_eats_38 p1 p2 p3 p4 h3 H
      · rw [if_pos c5] at H
        refine j_aload_n (pc := 25) dX11_eats_25 rfl ?_
        refine j_getR (pc := 26) (b := 2) dX11_eats_26 flX11_20 rfl ?_
        refine j_iload (pc := 29) dX11_eats_29 rfl ?_
        refine j_iconst (pc := 31) (v := 0) dX11_eats_31 (by decide) ?_
        obtain ⟨r7, h6, eh6, H⟩ := bd_x H
        refine j_callV (pc := 32) dX11_eats_32 mlX11_295 wyX4_isA (tX4_isA eh6) (by decide) rfl rfl rfl rfl (by simp [Value.category]) rfl ?_
        refine j_if_eq (pc := 35) (tgt := 42) dX11_eats_35 (by decide) (fun c8 => ?_) (fun c8 => ?_)
        · rw [if_pos c8] at H
          refine Jx.sub (L' := [some (.ref 0), some (.int p1), some (.int p2), some (.int p3), some (.int p4), none]) (⟨rfl, ⟨rfl, ⟨rfl, ⟨rfl, ⟨rfl, trivial⟩⟩⟩⟩⟩) ?_
          exact jX11_eats_42 p1 p2 p3 p4 h6 H
        · rw [if_neg c8] at H
          refine Jx.sub (L' := [some (.ref 0), some (.int p1), some (.int p2), some (.int p3), some (.int p4), none]) (⟨rfl, ⟨rfl, ⟨rfl, ⟨rfl, ⟨rfl, trivial⟩⟩⟩⟩⟩) ?_
          exact jX11_eats_38 p1 p2 p3 p4 h6 H

noncomputable def fX11_days_15 : Nat → Int32 → Int32 → HS → Option (Int32 × HS)
  | 0, _, _, _ => none
  | n + 1, v1, v2, h => if v1 ≤ v2 then (bd (fX8_emptyOnes h) (fun r6 h5 => some (r6, h5))) else (bd (fX8_goDay h) (fun r8 h7 => nm (v2 + (1 : Int32)) (fun v2_9 => fX11_days_15 n v1 v2_9 h7)))
set_option maxRecDepth 100000 in
theorem jX11_days_15 {r : Int32} {h0 : HS} : ∀ (n : Nat) (v1 : Int32) (v2 : Int32) (h : HS), fX11_days_15 n v1 v2 h = some (r, h0) → Jx skC RX11 cX11_days 3 (some .int) 3 (some (.int r)) h0 15 [some (.ref 0), some (.int v1), some (.int v2)] [] h := by
  intro n
  induction n with
  | zero => intro v1 v2  h H; cases H
  | succ n ih =>
    intro v1 v2  h H
    rw [fX11_days_15] at H
    refine j_iload_n (pc := 15) dX11_days_15 rfl ?_
    refine j_iload_n (pc := 16) dX11_days_16 rfl ?_
    refine j_icmp_ge (pc := 17) (tgt := 34) dX11_days_17 (by decide) (fun c4 => ?_) (fun c4 => ?_)
    · rw [if_pos c4] at H
      refine j_aload_n (pc := 34) dX11_days_34 rfl ?_
      refine j_getR (pc := 35) (b := 9) dX11_days_35 flX11_70 rfl ?_
      obtain ⟨r6, h5, eh5, H⟩ := bd_x H
      refine j_callV (pc := 38) dX11_days_38 mlX11_407 wyX8_emptyOnes (tX8_emptyOnes eh5) (by decide) rfl rfl rfl rfl (by simp [Value.category]) rfl ?_
      exact j_ireturn (pc := 41) dX11_days_41 rfl (ri_1 H) (ri_2 H)
    · rw [if_neg c4] at H
      refine j_aload_n (pc := 20) dX11_days_20 rfl ?_
      refine j_getR (pc := 21) (b := 9) dX11_days_21 flX11_70 rfl ?_
      obtain ⟨r8, h7, eh7, H⟩ := bd_x H
      refine j_callV (pc := 24) dX11_days_24 mlX11_246 wyX8_goDay (tX8_goDay eh7) (by decide) rfl rfl rfl rfl (by simp [Value.category]) rfl ?_
      refine j_pop (pc := 27) dX11_days_27 rfl ?_
      obtain ⟨v2_9, ev2_9, H⟩ := nm_x H
      refine j_iinc (pc := 28) (L' := [some (.ref 0), some (.int v1), some (.int v2_9)]) (w := 1) dX11_days_28 rfl (by decide) (by decide) v2_9 ev2_9 rfl ?_
      refine j_goto (pc := 31) (tgt := 15) dX11_days_31 (by decide) ?_
      refine Jx.sub (L' := [some (.ref 0), some (.int v1), some (.int v2_9)]) (⟨rfl, ⟨rfl, ⟨rfl, trivial⟩⟩⟩) ?_
      exact ih v1 v2_9 h7 H
noncomputable def fX11_days (p1 : Int32) (h : HS) : Option (Int32 × HS) := bd (fX11_between p1 (0 : Int32) (400 : Int32) h) (fun r2 h1 => if r2 = 0 then (some ((-1 : Int32), h1)) else (fX11_days_15 FU p1 (0 : Int32) h1))
set_option maxRecDepth 100000 in
theorem tX11_days {p1 : Int32} {r : Int32} {h h0 : HS} (H : fX11_days p1 h = some (r, h0)) : Cn skC yX11_days cX11_days 3 (some .int) 3 [.ref 0, .int p1] h (some (.int r)) h0 := by
  refine Cn_of (L := [some (.ref 0), some (.int p1), none]) (by decide +kernel) (by simp [lg_sl, Value.category]) (fun ad => by simp [lg_sl, tv, Value.category]) (⟨rfl, ⟨rfl, trivial⟩⟩) ?_
  unfold fX11_days at H
  refine j_iload_n (pc := 0) dX11_days_0 rfl ?_
  refine j_iconst (pc := 1) (v := 0) dX11_days_1 (by decide) ?_
  refine j_sipush (pc := 2) (v := 400) dX11_days_2 (by decide) ?_
  obtain ⟨r2, h1, eh1, H⟩ := bd_x H
  refine j_callS (pc := 5) dX11_days_5 mlX11_81 wyX11_between (tX11_between eh1) (by decide) rfl (by simp [Value.category]) rfl ?_
  refine j_if_ne (pc := 8) (tgt := 13) dX11_days_8 (by decide) (fun c3 => ?_) (fun c3 => ?_)
  · rw [if_neg c3] at H
    refine j_iconst (pc := 13) (v := 0) dX11_days_13 (by decide) ?_
    refine j_istore_n (pc := 14) (L' := [some (.ref 0), some (.int p1), some (.int (0 : Int32))]) dX11_days_14 (by decide) rfl ?_
    refine Jx.sub (L' := [some (.ref 0), some (.int p1), some (.int (0 : Int32))]) (⟨rfl, ⟨rfl, ⟨rfl, trivial⟩⟩⟩) ?_
    exact jX11_days_15 FU p1 (0 : Int32) h1 H
  · rw [if_pos c3] at H
    refine j_iconst (pc := 11) (v := -1) dX11_days_11 (by decide) ?_
    exact j_ireturn (pc := 12) dX11_days_12 rfl (ri_1 H) (ri_2 H)

noncomputable def fX11_lasts (p1 : Int32) (h : HS) : Option (Int32 × HS) := bd (fX11_isDepth p1 h) (fun r2 h1 => if r2 = 0 then (some ((-1 : Int32), h1)) else (bd (fX8_daysInReach p1 h1) (fun r5 h4 => some (r5, h4))))
set_option maxRecDepth 100000 in
theorem tX11_lasts {p1 : Int32} {r : Int32} {h h0 : HS} (H : fX11_lasts p1 h = some (r, h0)) : Cn skC yX11_lasts cX11_lasts 2 (some .int) 5 [.ref 0, .int p1] h (some (.int r)) h0 := by
  refine Cn_of (L := [some (.ref 0), some (.int p1)]) (by decide +kernel) (by simp [lg_sl, Value.category]) (fun ad => by simp [lg_sl, tv, Value.category]) (⟨rfl, ⟨rfl, trivial⟩⟩) ?_
  unfold fX11_lasts at H
  refine j_iload_n (pc := 0) dX11_lasts_0 rfl ?_
  obtain ⟨r2, h1, eh1, H⟩ := bd_x H
  refine j_callS (pc := 1) dX11_lasts_1 mlX11_142 wyX11_isDepth (tX11_isDepth eh1) (by decide) rfl (by simp [Value.category]) rfl ?_
  refine j_if_eq (pc := 4) (tgt := 18) dX11_lasts_4 (by decide) (fun c3 => ?_) (fun c3 => ?_)
  · rw [if_pos c3] at H
    refine j_iconst (pc := 18) (v := -1) dX11_lasts_18 (by decide) ?_
    exact j_ireturn (pc := 19) dX11_lasts_19 rfl (ri_1 H) (ri_2 H)
  · rw [if_neg c3] at H
    refine j_aload_n (pc := 7) dX11_lasts_7 rfl ?_
    refine j_getR (pc := 8) (b := 9) dX11_lasts_8 flX11_70 rfl ?_
    refine j_iload_n (pc := 11) dX11_lasts_11 rfl ?_
    obtain ⟨r5, h4, eh4, H⟩ := bd_x H
    refine j_callV (pc := 12) dX11_lasts_12 mlX11_410 wyX8_daysInReach (tX8_daysInReach eh4) (by decide) rfl rfl rfl rfl (by simp [Value.category]) rfl ?_
    refine j_goto (pc := 15) (tgt := 19) dX11_lasts_15 (by decide) ?_
    exact j_ireturn (pc := 19) dX11_lasts_19 rfl (ri_1 H) (ri_2 H)

noncomputable def fX11_shift (p1 : Int32) (h : HS) : Option (Int32 × HS) := bd (fX11_isDepth p1 h) (fun r2 h1 => if r2 = 0 then (some ((-1 : Int32), h1)) else (bd (fX8_findShift p1 h1) (fun r5 h4 => if r5 = 0 then (some ((-2 : Int32), h4)) else (bv (fX6_empty h4) (fun h7 => bv (fX6_add ((gI h7 9 5)) h7) (fun h8 => bv (fX6_add ((gI h8 9 6)) h8) (fun h9 => if (gI h9 9 7) ≤ (400 : Int32) then (some ((gI h9 9 7), h9)) else (some ((-1 : Int32), h9)))))))))
set_option maxRecDepth 100000 in
theorem tX11_shift {p1 : Int32} {r : Int32} {h h0 : HS} (H : fX11_shift p1 h = some (r, h0)) : Cn skC yX11_shift cX11_shift 2 (some .int) 7 [.ref 0, .int p1] h (some (.int r)) h0 := by
  refine Cn_of (L := [some (.ref 0), some (.int p1)]) (by decide +kernel) (by simp [lg_sl, Value.category]) (fun ad => by simp [lg_sl, tv, Value.category]) (⟨rfl, ⟨rfl, trivial⟩⟩) ?_
  unfold fX11_shift at H
  refine j_iload_n (pc := 0) dX11_shift_0 rfl ?_
  obtain ⟨r2, h1, eh1, H⟩ := bd_x H
  refine j_callS (pc := 1) dX11_shift_1 mlX11_142 wyX11_isDepth (tX11_isDepth eh1) (by decide) rfl (by simp [Value.category]) rfl ?_
  refine j_if_ne (pc := 4) (tgt := 9) dX11_shift_4 (by decide) (fun c3 => ?_) (fun c3 => ?_)
  · rw [if_neg c3] at H
    refine j_aload_n (pc := 9) dX11_shift_9 rfl ?_
    refine j_getR (pc := 10) (b := 9) dX11_shift_10 flX11_70 rfl ?_
    refine j_iload_n (pc := 13) dX11_shift_13 rfl ?_
    obtain ⟨r5, h4, eh4, H⟩ := bd_x H
    refine j_callV (pc := 14) dX11_shift_14 mlX11_413 wyX8_findShift (tX8_findShift eh4) (by decide) rfl rfl rfl rfl (by simp [Value.category]) rfl ?_
    refine j_if_ne (pc := 17) (tgt := 23) dX11_shift_17 (by decide) (fun c6 => ?_) (fun c6 => ?_)
    · rw [if_neg c6] at H
      refine j_aload_n (pc := 23) dX11_shift_23 rfl ?_
      refine j_getR (pc := 24) (b := 4) dX11_shift_24 flX11_29 rfl ?_
      obtain ⟨h7, eh7, H⟩ := bv_x H
      refine j_callV (pc := 27) dX11_shift_27 mlX11_207 wyX6_empty (tX6_empty eh7) (by decide) rfl rfl rfl rfl (by simp [Value.category]) rfl ?_
      refine j_aload_n (pc := 30) dX11_shift_30 rfl ?_
      refine j_getR (pc := 31) (b := 4) dX11_shift_31 flX11_29 rfl ?_
      refine j_aload_n (pc := 34) dX11_shift_34 rfl ?_
      refine j_getR (pc := 35) (b := 9) dX11_shift_35 flX11_70 rfl ?_
      refine j_getI (pc := 38) dX11_shift_38 flX11_416 rfl ?_
      obtain ⟨h8, eh8, H⟩ := bv_x H
      refine j_callV (pc := 41) dX11_shift_41 mlX11_210 wyX6_add (tX6_add eh8) (by decide) rfl rfl rfl rfl (by simp [Value.category]) rfl ?_
      refine j_aload_n (pc := 44) dX11_shift_44 rfl ?_
      refine j_getR (pc := 45) (b := 4) dX11_shift_45 flX11_29 rfl ?_
      refine j_aload_n (pc := 48) dX11_shift_48 rfl ?_
      refine j_getR (pc := 49) (b := 9) dX11_shift_49 flX11_70 rfl ?_
      refine j_getI (pc := 52) dX11_shift_52 flX11_419 rfl ?_
      obtain ⟨h9, eh9, H⟩ := bv_x H
      refine j_callV (pc := 55) dX11_shift_55 mlX11_210 wyX6_add (tX6_add eh9) (by decide) rfl rfl rfl rfl (by simp [Value.category]) rfl ?_
      refine j_aload_n (pc := 58) dX11_shift_58 rfl ?_
      refine j_getR (pc := 59) (b := 9) dX11_shift_59 flX11_70 rfl ?_
      refine j_getI (pc := 62) dX11_shift_62 flX11_422 rfl ?_
      refine j_sipush (pc := 65) (v := 400) dX11_shift_65 (by decide) ?_
      refine j_icmp_le (pc := 68) (tgt := 75) dX11_shift_68 (by decide) (fun c10 => ?_) (fun c10 => ?_)
      · rw [if_pos c10] at H
        refine j_aload_n (pc := 75) dX11_shift_75 rfl ?_
        refine j_getR (pc := 76) (b := 9) dX11_shift_76 flX11_70 rfl ?_
        refine j_getI (pc := 79) dX11_shift_79 flX11_422 rfl ?_
        exact j_ireturn (pc := 82) dX11_shift_82 rfl (ri_1 H) (ri_2 H)
      · rw [if_neg c10] at H
        refine j_iconst (pc := 71) (v := -1) dX11_shift_71 (by decide) ?_
        refine j_goto (pc := 72) (tgt := 82) dX11_shift_72 (by decide) ?_
        exact j_ireturn (pc := 82) dX11_shift_82 rfl (ri_1 H) (ri_2 H)
    · rw [if_pos c6] at H
      refine j_bipush (pc := 20) (v := -2) dX11_shift_20 (by decide) ?_
      exact j_ireturn (pc := 22) dX11_shift_22 rfl (ri_1 H) (ri_2 H)
  · rw [if_pos c3] at H
    refine j_iconst (pc := 7) (v := -1) dX11_shift_7 (by decide) ?_
    exact j_ireturn (pc := 8) dX11_shift_8 rfl (ri_1 H) (ri_2 H)

noncomputable def fX11_ground_76 : Nat → Int32 → Int32 → HS → Option (Int32 × HS)
  | 0, _, _, _ => none
  | n + 1, v3, v4, h => if (gI h 2 8) ≤ v4 then (bv (fX4_restore h) (fun h17 => some (v3, h17))) else (ck (inb v4 15) (if (gI h 26 v4.toNatClampNeg) = 0 then (ck (inb v4 15) (bv (fX6_add ((gI h 30 v4.toNatClampNeg)) h) (fun h22 => nm (v4 + (1 : Int32)) (fun v4_23 => fX11_ground_76 n v3 v4_23 h22)))) else (nm (v4 + (1 : Int32)) (fun v4_20 => fX11_ground_76 n v3 v4_20 h))))
set_option maxRecDepth 100000 in
theorem jX11_ground_76 {r : Int32} {h0 : HS} : ∀ (n : Nat) (v3 : Int32) (v4 : Int32) (h : HS), fX11_ground_76 n v3 v4 h = some (r, h0) → Jx skC RX11 cX11_ground 5 (some .int) 3 (some (.int r)) h0 76 [some (.ref 0), none, none, some (.int v3), some (.int v4)] [] h := by
  intro n
  induction n with
  | zero => intro v3 v4  h H; cases H
  | succ n ih =>
    intro v3 v4  h H
    rw [fX11_ground_76] at H
    refine j_iload (pc := 76) dX11_ground_76 rfl ?_
    refine j_aload_n (pc := 78) dX11_ground_78 rfl ?_
    refine j_getR (pc := 79) (b := 2) dX11_ground_79 flX11_20 rfl ?_
    refine j_getI (pc := 82) dX11_ground_82 flX11_104 rfl ?_
    refine j_icmp_ge (pc := 85) (tgt := 124) dX11_ground_85 (by decide) (fun c16 => ?_) (fun c16 => ?_)
    · rw [if_pos c16] at H
      refine j_aload_n (pc := 124) dX11_ground_124 rfl ?_
      refine j_getR (pc := 125) (b := 2) dX11_ground_125 flX11_20 rfl ?_
      obtain ⟨h17, eh17, H⟩ := bv_x H
      refine j_callV (pc := 128) dX11_ground_128 mlX11_249 wyX4_restore (tX4_restore eh17) (by decide) rfl rfl rfl rfl (by simp [Value.category]) rfl ?_
      refine j_iload_n (pc := 131) dX11_ground_131 rfl ?_
      exact j_ireturn (pc := 132) dX11_ground_132 rfl (ri_1 H) (ri_2 H)
    · rw [if_neg c16] at H
      refine j_aload_n (pc := 88) dX11_ground_88 rfl ?_
      refine j_getR (pc := 89) (b := 2) dX11_ground_89 flX11_20 rfl ?_
      refine j_getR (pc := 92) (b := 26) dX11_ground_92 flX11_161 rfl ?_
      refine j_iload (pc := 95) dX11_ground_95 rfl ?_
      obtain ⟨b18, H⟩ := ck_x H
      refine j_iaload (pc := 97) dX11_ground_97 rfl b18 rfl ?_
      refine j_if_ne (pc := 98) (tgt := 118) dX11_ground_98 (by decide) (fun c19 => ?_) (fun c19 => ?_)
      · rw [if_neg c19] at H
        obtain ⟨v4_20, ev4_20, H⟩ := nm_x H
        refine j_iinc (pc := 118) (L' := [some (.ref 0), none, none, some (.int v3), some (.int v4_20)]) (w := 1) dX11_ground_118 rfl (by decide) (by decide) v4_20 ev4_20 rfl ?_
        refine j_goto (pc := 121) (tgt := 76) dX11_ground_121 (by decide) ?_
        refine Jx.sub (L' := [some (.ref 0), none, none, some (.int v3), some (.int v4_20)]) (⟨rfl, ⟨rfl, ⟨rfl, trivial⟩⟩⟩) ?_
        exact ih v3 v4_20 h H
      · rw [if_pos c19] at H
        refine j_aload_n (pc := 101) dX11_ground_101 rfl ?_
        refine j_getR (pc := 102) (b := 4) dX11_ground_102 flX11_29 rfl ?_
        refine j_aload_n (pc := 105) dX11_ground_105 rfl ?_
        refine j_getR (pc := 106) (b := 2) dX11_ground_106 flX11_20 rfl ?_
        refine j_getR (pc := 109) (b := 30) dX11_ground_109 flX11_98 rfl ?_
        refine j_iload (pc := 112) dX11_ground_112 rfl ?_
        obtain ⟨b21, H⟩ := ck_x H
        refine j_iaload (pc := 114) dX11_ground_114 rfl b21 rfl ?_
        obtain ⟨h22, eh22, H⟩ := bv_x H
        refine j_callV (pc := 115) dX11_ground_115 mlX11_210 wyX6_add (tX6_add eh22) (by decide) rfl rfl rfl rfl (by simp [Value.category]) rfl ?_
        obtain ⟨v4_23, ev4_23, H⟩ := nm_x H
        refine j_iinc (pc := 118) (L' := [some (.ref 0), none, none, some (.int v3), some (.int v4_23)]) (w := 1) dX11_ground_118 rfl (by decide) (by decide) v4_23 ev4_23 rfl ?_
        refine j_goto (pc := 121) (tgt := 76) dX11_ground_121 (by decide) ?_
        refine Jx.sub (L' := [some (.ref 0), none, none, some (.int v3), some (.int v4_23)]) (⟨rfl, ⟨rfl, ⟨rfl, trivial⟩⟩⟩) ?_
        exact ih v3 v4_23 h22 H
noncomputable def fX11_ground (p1 : Int32) (p2 : Int32) (h : HS) : Option (Int32 × HS) := bd (fX11_isDepth p1 h) (fun r2 h1 => if r2 = 0 then (some ((-1 : Int32), h1)) else (bd (fX11_between p2 (0 : Int32) (999 : Int32) h1) (fun r5 h4 => if r5 = 0 then (some ((-1 : Int32), h4)) else (bd (fX0_heavyAt p1 h4) (fun r8 h7 => nm ((imax (0 : Int32) ((r8 + p2) + (1 : Int32)))) (fun v3_9 => bd (fX4_tanksHold h7) (fun r11 h10 => if v3_9 ≤ r11 then (bv (fX4_save h10) (fun h13 => bv (fX4_emptyFullestFirst v3_9 h13) (fun h14 => bv (fX6_empty h14) (fun h15 => fX11_ground_76 FU v3_9 (0 : Int32) h15)))) else (some ((-2 : Int32), h10)))))))))
set_option maxRecDepth 100000 in
theorem tX11_ground {p1 : Int32} {p2 : Int32} {r : Int32} {h h0 : HS} (H : fX11_ground p1 p2 h = some (r, h0)) : Cn skC yX11_ground cX11_ground 5 (some .int) 3 [.ref 0, .int p1, .int p2] h (some (.int r)) h0 := by
  refine Cn_of (L := [some (.ref 0), some (.int p1), some (.int p2), none, none]) (by decide +kernel) (by simp [lg_sl, Value.category]) (fun ad => by simp [lg_sl, tv, Value.category]) (⟨rfl, ⟨rfl, ⟨rfl, trivial⟩⟩⟩) ?_
  unfold fX11_ground at H
  refine j_iload_n (pc := 0) dX11_ground_0 rfl ?_
  obtain ⟨r2, h1, eh1, H⟩ := bd_x H
  refine j_callS (pc := 1) dX11_ground_1 mlX11_142 wyX11_isDepth (tX11_isDepth eh1) (by decide) rfl (by simp [Value.category]) rfl ?_
  refine j_if_eq (pc := 4) (tgt := 18) dX11_ground_4 (by decide) (fun c3 => ?_) (fun c3 => ?_)
  · rw [if_pos c3] at H
    refine j_iconst (pc := 18) (v := -1) dX11_ground_18 (by decide) ?_
    exact j_ireturn (pc := 19) dX11_ground_19 rfl (ri_1 H) (ri_2 H)
  · rw [if_neg c3] at H
    refine j_iload_n (pc := 7) dX11_ground_7 rfl ?_
    refine j_iconst (pc := 8) (v := 0) dX11_ground_8 (by decide) ?_
    refine j_sipush (pc := 9) (v := 999) dX11_ground_9 (by decide) ?_
    obtain ⟨r5, h4, eh4, H⟩ := bd_x H
    refine j_callS (pc := 12) dX11_ground_12 mlX11_81 wyX11_between (tX11_between eh4) (by decide) rfl (by simp [Value.category]) rfl ?_
    refine j_if_ne (pc := 15) (tgt := 20) dX11_ground_15 (by decide) (fun c6 => ?_) (fun c6 => ?_)
    · rw [if_neg c6] at H
      refine j_iconst (pc := 20) (v := 0) dX11_ground_20 (by decide) ?_
      refine j_aload_n (pc := 21) dX11_ground_21 rfl ?_
      refine j_getR (pc := 22) (b := 1) dX11_ground_22 flX11_10 rfl ?_
      refine j_iload_n (pc := 25) dX11_ground_25 rfl ?_
      obtain ⟨r8, h7, eh7, H⟩ := bd_x H
      refine j_callV (pc := 26) dX11_ground_26 mlX11_174 wyX0_heavyAt (tX0_heavyAt eh7) (by decide) rfl rfl rfl rfl (by simp [Value.category]) rfl ?_
      refine j_iload_n (pc := 29) dX11_ground_29 rfl ?_
      refine j_iadd (pc := 30) dX11_ground_30 ?_
      refine j_iconst (pc := 31) (v := 1) dX11_ground_31 (by decide) ?_
      refine j_iadd (pc := 32) dX11_ground_32 ?_
      refine j_mmax (pc := 33) dX11_ground_33 wmX11_425 (by simp [Value.category]) ?_
      obtain ⟨v3_9, ev3_9, H⟩ := nm_x H
      refine j_topi ev3_9 ?_
      refine j_istore_n (pc := 36) (L' := [some (.ref 0), some (.int p1), some (.int p2), some (.int v3_9), none]) dX11_ground_36 (by decide) rfl ?_
      refine j_iload_n (pc := 37) dX11_ground_37 rfl ?_
      refine j_aload_n (pc := 38) dX11_ground_38 rfl ?_
      refine j_getR (pc := 39) (b := 2) dX11_ground_39 flX11_20 rfl ?_
      obtain ⟨r11, h10, eh10, H⟩ := bd_x H
      refine j_callV (pc := 42) dX11_ground_42 mlX11_427 wyX4_tanksHold (tX4_tanksHold eh10) (by decide) rfl rfl rfl rfl (by simp [Value.category]) rfl ?_
      refine j_icmp_le (pc := 45) (tgt := 51) dX11_ground_45 (by decide) (fun c12 => ?_) (fun c12 => ?_)
      · rw [if_pos c12] at H
        refine j_aload_n (pc := 51) dX11_ground_51 rfl ?_
        refine j_getR (pc := 52) (b := 2) dX11_ground_52 flX11_20 rfl ?_
        obtain ⟨h13, eh13, H⟩ := bv_x H
        refine j_callV (pc := 55) dX11_ground_55 mlX11_243 wyX4_save (tX4_save eh13) (by decide) rfl rfl rfl rfl (by simp [Value.category]) rfl ?_
        refine j_aload_n (pc := 58) dX11_ground_58 rfl ?_
        refine j_getR (pc := 59) (b := 2) dX11_ground_59 flX11_20 rfl ?_
        refine j_iload_n (pc := 62) dX11_ground_62 rfl ?_
        obtain ⟨h14, eh14, H⟩ := bv_x H
        refine j_callV (pc := 63) dX11_ground_63 mlX11_430 wyX4_emptyFullestFirst (tX4_emptyFullestFirst eh14) (by decide) rfl rfl rfl rfl (by simp [Value.category]) rfl ?_
        refine j_aload_n (pc := 66) dX11_ground_66 rfl ?_
        refine j_getR (pc := 67) (b := 4) dX11_ground_67 flX11_29 rfl ?_
        obtain ⟨h15, eh15, H⟩ := bv_x H
        refine j_callV (pc := 70) dX11_ground_70 mlX11_207 wyX6_empty (tX6_empty eh15) (by decide) rfl rfl rfl rfl (by simp [Value.category]) rfl ?_
        refine j_iconst (pc := 73) (v := 0) dX11_ground_73 (by decide) ?_
        refine j_istore (pc := 74) (L' := [some (.ref 0), some (.int p1), some (.int p2), some (.int v3_9), some (.int (0 : Int32))]) dX11_ground_74 (by decide) rfl ?_
        refine Jx.sub (L' := [some (.ref 0), none, none, some (.int v3_9), some (.int (0 : Int32))]) (⟨rfl, ⟨rfl, ⟨rfl, trivial⟩⟩⟩) ?_
        exact jX11_ground_76 FU v3_9 (0 : Int32) h15 H
      · rw [if_neg c12] at H
        refine j_bipush (pc := 48) (v := -2) dX11_ground_48 (by decide) ?_
        exact j_ireturn (pc := 50) dX11_ground_50 rfl (ri_1 H) (ri_2 H)
    · rw [if_pos c6] at H
      refine j_iconst (pc := 18) (v := -1) dX11_ground_18 (by decide) ?_
      exact j_ireturn (pc := 19) dX11_ground_19 rfl (ri_1 H) (ri_2 H)

noncomputable def fX11_ice_152 (v2 : Int32) (v4 : Int32) (v5 : Int32) (s1 : Int32) (h : HS) : Option (Int32 × HS) := bv (fX6_add s1 h) (fun h23 => bv (fX6_add v5 h23) (fun h24 => if v4 = 0 then (some ((0 : Int32), h24)) else (if v5 < ((50 : Int32) * v2) then (some ((0 : Int32), h24)) else (some ((1 : Int32), h24)))))
set_option maxRecDepth 100000 in
theorem jX11_ice_152 {r : Int32} {h0 : HS} (v2 : Int32) (v4 : Int32) (v5 : Int32) (s1 : Int32) (h : HS) (H : fX11_ice_152 v2 v4 v5 s1 h = some (r, h0)) : Jx skC RX11 cX11_ice 6 (some .int) 3 (some (.int r)) h0 152 [some (.ref 0), none, some (.int v2), none, some (.int v4), some (.int v5)] [.int s1, .ref 4] h := by
  unfold fX11_ice_152 at H
  obtain ⟨h23, eh23, H⟩ := bv_x H
  refine j_callV (pc := 152) dX11_ice_152 mlX11_210 wyX6_add (tX6_add eh23) (by decide) rfl rfl rfl rfl (by simp [Value.category]) rfl ?_
  refine j_aload_n (pc := 155) dX11_ice_155 rfl ?_
  refine j_getR (pc := 156) (b := 4) dX11_ice_156 flX11_29 rfl ?_
  refine j_iload (pc := 159) dX11_ice_159 rfl ?_
  obtain ⟨h24, eh24, H⟩ := bv_x H
  refine j_callV (pc := 161) dX11_ice_161 mlX11_210 wyX6_add (tX6_add eh24) (by decide) rfl rfl rfl rfl (by simp [Value.category]) rfl ?_
  refine j_iload (pc := 164) dX11_ice_164 rfl ?_
  refine j_if_eq (pc := 166) (tgt := 182) dX11_ice_166 (by decide) (fun c25 => ?_) (fun c25 => ?_)
  · rw [if_pos c25] at H
    refine j_iconst (pc := 182) (v := 0) dX11_ice_182 (by decide) ?_
    exact j_ireturn (pc := 183) dX11_ice_183 rfl (ri_1 H) (ri_2 H)
  · rw [if_neg c25] at H
    refine j_iload (pc := 169) dX11_ice_169 rfl ?_
    refine j_bipush (pc := 171) (v := 50) dX11_ice_171 (by decide) ?_
    refine j_iload_n (pc := 173) dX11_ice_173 rfl ?_
    refine j_imul (pc := 174) dX11_ice_174 ?_
    refine j_icmp_lt (pc := 175) (tgt := 182) dX11_ice_175 (by decide) (fun c26 => ?_) (fun c26 => ?_)
    · rw [if_pos c26] at H
      refine j_iconst (pc := 182) (v := 0) dX11_ice_182 (by decide) ?_
      exact j_ireturn (pc := 183) dX11_ice_183 rfl (ri_1 H) (ri_2 H)
    · rw [if_neg c26] at H
      refine j_iconst (pc := 178) (v := 1) dX11_ice_178 (by decide) ?_
      refine j_goto (pc := 179) (tgt := 183) dX11_ice_179 (by decide) ?_
      exact j_ireturn (pc := 183) dX11_ice_183 rfl (ri_1 H) (ri_2 H)
noncomputable def fX11_ice_129 (v2 : Int32) (v3 : Int32) (v4 : Int32) (s0 : Int32) (h : HS) : Option (Int32 × HS) := bv (fX6_empty h) (fun h21 => if v4 = 0 then (fX11_ice_152 v2 v4 s0 (-1 : Int32) h21) else (fX11_ice_152 v2 v4 s0 v3 h21))
set_option maxRecDepth 100000 in
theorem jX11_ice_129 {r : Int32} {h0 : HS} (v2 : Int32) (v3 : Int32) (v4 : Int32) (s0 : Int32) (h : HS) (H : fX11_ice_129 v2 v3 v4 s0 h = some (r, h0)) : Jx skC RX11 cX11_ice 6 (some .int) 3 (some (.int r)) h0 129 [some (.ref 0), none, some (.int v2), some (.int v3), some (.int v4), none] [.int s0] h := by
  unfold fX11_ice_129 at H
  refine j_istore (pc := 129) (L' := [some (.ref 0), none, some (.int v2), some (.int v3), some (.int v4), some (.int s0)]) dX11_ice_129 (by decide) rfl ?_
  refine j_aload_n (pc := 131) dX11_ice_131 rfl ?_
  refine j_getR (pc := 132) (b := 4) dX11_ice_132 flX11_29 rfl ?_
  obtain ⟨h21, eh21, H⟩ := bv_x H
  refine j_callV (pc := 135) dX11_ice_135 mlX11_207 wyX6_empty (tX6_empty eh21) (by decide) rfl rfl rfl rfl (by simp [Value.category]) rfl ?_
  refine j_aload_n (pc := 138) dX11_ice_138 rfl ?_
  refine j_getR (pc := 139) (b := 4) dX11_ice_139 flX11_29 rfl ?_
  refine j_iload (pc := 142) dX11_ice_142 rfl ?_
  refine j_if_eq (pc := 144) (tgt := 151) dX11_ice_144 (by decide) (fun c22 => ?_) (fun c22 => ?_)
  · rw [if_pos c22] at H
    refine j_iconst (pc := 151) (v := -1) dX11_ice_151 (by decide) ?_
    refine Jx.sub (L' := [some (.ref 0), none, some (.int v2), none, some (.int v4), some (.int s0)]) (⟨rfl, ⟨rfl, ⟨rfl, ⟨rfl, trivial⟩⟩⟩⟩) ?_
    exact jX11_ice_152 v2 v4 s0 (-1 : Int32) h21 H
  · rw [if_neg c22] at H
    refine j_iload_n (pc := 147) dX11_ice_147 rfl ?_
    refine j_goto (pc := 148) (tgt := 152) dX11_ice_148 (by decide) ?_
    refine Jx.sub (L' := [some (.ref 0), none, some (.int v2), none, some (.int v4), some (.int s0)]) (⟨rfl, ⟨rfl, ⟨rfl, ⟨rfl, trivial⟩⟩⟩⟩) ?_
    exact jX11_ice_152 v2 v4 s0 v3 h21 H
noncomputable def fX11_ice_97 (v2 : Int32) (v3 : Int32) (s0 : Int32) (h : HS) : Option (Int32 × HS) := if s0 = 0 then (fX11_ice_129 v2 v3 s0 (0 : Int32) h) else (bd (fX0_weightNow h) (fun r20 h19 => fX11_ice_129 v2 v3 s0 ((((iabs (gI h 7 4)) * r20) / (100 : Int32))) h19))
set_option maxRecDepth 100000 in
theorem jX11_ice_97 {r : Int32} {h0 : HS} (v2 : Int32) (v3 : Int32) (s0 : Int32) (h : HS) (H : fX11_ice_97 v2 v3 s0 h = some (r, h0)) : Jx skC RX11 cX11_ice 6 (some .int) 3 (some (.int r)) h0 97 [some (.ref 0), none, some (.int v2), some (.int v3), none, none] [.int s0] h := by
  unfold fX11_ice_97 at H
  refine j_istore (pc := 97) (L' := [some (.ref 0), none, some (.int v2), some (.int v3), some (.int s0), none]) dX11_ice_97 (by decide) rfl ?_
  refine j_iload (pc := 99) dX11_ice_99 rfl ?_
  refine j_if_eq (pc := 101) (tgt := 128) dX11_ice_101 (by decide) (fun c18 => ?_) (fun c18 => ?_)
  · rw [if_pos c18] at H
    refine j_iconst (pc := 128) (v := 0) dX11_ice_128 (by decide) ?_
    refine Jx.sub (L' := [some (.ref 0), none, some (.int v2), some (.int v3), some (.int s0), none]) (⟨rfl, ⟨rfl, ⟨rfl, ⟨rfl, trivial⟩⟩⟩⟩) ?_
    exact jX11_ice_129 v2 v3 s0 (0 : Int32) h H
  · rw [if_neg c18] at H
    refine j_aload_n (pc := 104) dX11_ice_104 rfl ?_
    refine j_getR (pc := 105) (b := 7) dX11_ice_105 flX11_56 rfl ?_
    refine j_getI (pc := 108) dX11_ice_108 flX11_348 rfl ?_
    refine j_mabs (pc := 111) dX11_ice_111 wmX11_204 (by simp [Value.category]) ?_
    refine j_aload_n (pc := 114) dX11_ice_114 rfl ?_
    refine j_getR (pc := 115) (b := 1) dX11_ice_115 flX11_10 rfl ?_
    obtain ⟨r20, h19, eh19, H⟩ := bd_x H
    refine j_callV (pc := 118) dX11_ice_118 mlX11_194 wyX0_weightNow (tX0_weightNow eh19) (by decide) rfl rfl rfl rfl (by simp [Value.category]) rfl ?_
    refine j_imul (pc := 121) dX11_ice_121 ?_
    refine j_bipush (pc := 122) (v := 100) dX11_ice_122 (by decide) ?_
    refine j_idiv (pc := 124) dX11_ice_124 (by decide) ?_
    refine j_goto (pc := 125) (tgt := 129) dX11_ice_125 (by decide) ?_
    refine Jx.sub (L' := [some (.ref 0), none, some (.int v2), some (.int v3), some (.int s0), none]) (⟨rfl, ⟨rfl, ⟨rfl, ⟨rfl, trivial⟩⟩⟩⟩) ?_
    exact jX11_ice_129 v2 v3 s0 ((((iabs (gI h 7 4)) * r20) / (100 : Int32))) h19 H
noncomputable def fX11_ice_78 (v2 : Int32) (v3 : Int32) (h : HS) : Option (Int32 × HS) := if (v2 * (10 : Int32)) < (gI h 7 3) then (fX11_ice_97 v2 v3 (0 : Int32) h) else (fX11_ice_97 v2 v3 (1 : Int32) h)
set_option maxRecDepth 100000 in
theorem jX11_ice_78 {r : Int32} {h0 : HS} (v2 : Int32) (v3 : Int32) (h : HS) (H : fX11_ice_78 v2 v3 h = some (r, h0)) : Jx skC RX11 cX11_ice 6 (some .int) 3 (some (.int r)) h0 78 [some (.ref 0), none, some (.int v2), some (.int v3), none, none] [] h := by
  unfold fX11_ice_78 at H
  refine j_aload_n (pc := 78) dX11_ice_78 rfl ?_
  refine j_getR (pc := 79) (b := 7) dX11_ice_79 flX11_56 rfl ?_
  refine j_getI (pc := 82) dX11_ice_82 flX11_345 rfl ?_
  refine j_iload_n (pc := 85) dX11_ice_85 rfl ?_
  refine j_bipush (pc := 86) (v := 10) dX11_ice_86 (by decide) ?_
  refine j_imul (pc := 88) dX11_ice_88 ?_
  refine j_icmp_gt (pc := 89) (tgt := 96) dX11_ice_89 (by decide) (fun c17 => ?_) (fun c17 => ?_)
  · rw [if_pos c17] at H
    refine j_iconst (pc := 96) (v := 0) dX11_ice_96 (by decide) ?_
    refine Jx.sub (L' := [some (.ref 0), none, some (.int v2), some (.int v3), none, none]) (⟨rfl, ⟨rfl, ⟨rfl, trivial⟩⟩⟩) ?_
    exact jX11_ice_97 v2 v3 (0 : Int32) h H
  · rw [if_neg c17] at H
    refine j_iconst (pc := 92) (v := 1) dX11_ice_92 (by decide) ?_
    refine j_goto (pc := 93) (tgt := 97) dX11_ice_93 (by decide) ?_
    refine Jx.sub (L' := [some (.ref 0), none, some (.int v2), some (.int v3), none, none]) (⟨rfl, ⟨rfl, ⟨rfl, trivial⟩⟩⟩) ?_
    exact jX11_ice_97 v2 v3 (1 : Int32) h H
noncomputable def fX11_ice_44 : Nat → Int32 → Int32 → HS → Option (Int32 × HS)
  | 0, _, _, _ => none
  | n + 1, v2, v3, h => if (gI h 7 3) ≤ (v2 * (10 : Int32)) then (fX11_ice_78 v2 v3 h) else (if (600 : Int32) ≤ v3 then (fX11_ice_78 v2 v3 h) else (bv (fX3_goSecond h) (fun h15 => nm (v3 + (1 : Int32)) (fun v3_16 => fX11_ice_44 n v2 v3_16 h15))))
set_option maxRecDepth 100000 in
theorem jX11_ice_44 {r : Int32} {h0 : HS} : ∀ (n : Nat) (v2 : Int32) (v3 : Int32) (h : HS), fX11_ice_44 n v2 v3 h = some (r, h0) → Jx skC RX11 cX11_ice 6 (some .int) 3 (some (.int r)) h0 44 [some (.ref 0), none, some (.int v2), some (.int v3), none, none] [] h := by
  intro n
  induction n with
  | zero => intro v2 v3  h H; cases H
  | succ n ih =>
    intro v2 v3  h H
    rw [fX11_ice_44] at H
    refine j_aload_n (pc := 44) dX11_ice_44 rfl ?_
    refine j_getR (pc := 45) (b := 7) dX11_ice_45 flX11_56 rfl ?_
    refine j_getI (pc := 48) dX11_ice_48 flX11_345 rfl ?_
    refine j_iload_n (pc := 51) dX11_ice_51 rfl ?_
    refine j_bipush (pc := 52) (v := 10) dX11_ice_52 (by decide) ?_
    refine j_imul (pc := 54) dX11_ice_54 ?_
    refine j_icmp_le (pc := 55) (tgt := 78) dX11_ice_55 (by decide) (fun c13 => ?_) (fun c13 => ?_)
    · rw [if_pos c13] at H
      refine Jx.sub (L' := [some (.ref 0), none, some (.int v2), some (.int v3), none, none]) (⟨rfl, ⟨rfl, ⟨rfl, trivial⟩⟩⟩) ?_
      exact jX11_ice_78 v2 v3 h H
    · rw [if_neg c13] at H
      refine j_iload_n (pc := 58) dX11_ice_58 rfl ?_
      refine j_sipush (pc := 59) (v := 600) dX11_ice_59 (by decide) ?_
      refine j_icmp_ge (pc := 62) (tgt := 78) dX11_ice_62 (by decide) (fun c14 => ?_) (fun c14 => ?_)
      · rw [if_pos c14] at H
        refine Jx.sub (L' := [some (.ref 0), none, some (.int v2), some (.int v3), none, none]) (⟨rfl, ⟨rfl, ⟨rfl, trivial⟩⟩⟩) ?_
        exact jX11_ice_78 v2 v3 h H
      · rw [if_neg c14] at H
        refine j_aload_n (pc := 65) dX11_ice_65 rfl ?_
        refine j_getR (pc := 66) (b := 7) dX11_ice_66 flX11_56 rfl ?_
        obtain ⟨h15, eh15, H⟩ := bv_x H
        refine j_callV (pc := 69) dX11_ice_69 mlX11_342 wyX3_goSecond (tX3_goSecond eh15) (by decide) rfl rfl rfl rfl (by simp [Value.category]) rfl ?_
        obtain ⟨v3_16, ev3_16, H⟩ := nm_x H
        refine j_iinc (pc := 72) (L' := [some (.ref 0), none, some (.int v2), some (.int v3_16), none, none]) (w := 1) dX11_ice_72 rfl (by decide) (by decide) v3_16 ev3_16 rfl ?_
        refine j_goto (pc := 75) (tgt := 44) dX11_ice_75 (by decide) ?_
        refine Jx.sub (L' := [some (.ref 0), none, some (.int v2), some (.int v3_16), none, none]) (⟨rfl, ⟨rfl, ⟨rfl, trivial⟩⟩⟩) ?_
        exact ih v2 v3_16 h15 H
noncomputable def fX11_ice (p1 : Int32) (p2 : Int32) (h : HS) : Option (Int32 × HS) := bd (fX11_isDepth p1 h) (fun r2 h1 => if r2 = 0 then (some ((-1 : Int32), h1)) else (bd (fX11_between p2 (1 : Int32) (20 : Int32) h1) (fun r5 h4 => if r5 = 0 then (some ((-1 : Int32), h4)) else (if p2 < p1 then (bd (fX0_momentNow h4) (fun r9 h8 => bd (fX3_pushOf r9 h8) (fun r11 h10 => bv (fX3_begin p1 r11 h10) (fun h12 => fX11_ice_44 FU p2 (0 : Int32) h12)))) else (some ((-1 : Int32), h4))))))
set_option maxRecDepth 100000 in
theorem tX11_ice {p1 : Int32} {p2 : Int32} {r : Int32} {h h0 : HS} (H : fX11_ice p1 p2 h = some (r, h0)) : Cn skC yX11_ice cX11_ice 6 (some .int) 3 [.ref 0, .int p1, .int p2] h (some (.int r)) h0 := by
  refine Cn_of (L := [some (.ref 0), some (.int p1), some (.int p2), none, none, none]) (by decide +kernel) (by simp [lg_sl, Value.category]) (fun ad => by simp [lg_sl, tv, Value.category]) (⟨rfl, ⟨rfl, ⟨rfl, trivial⟩⟩⟩) ?_
  unfold fX11_ice at H
  refine j_iload_n (pc := 0) dX11_ice_0 rfl ?_
  obtain ⟨r2, h1, eh1, H⟩ := bd_x H
  refine j_callS (pc := 1) dX11_ice_1 mlX11_142 wyX11_isDepth (tX11_isDepth eh1) (by decide) rfl (by simp [Value.category]) rfl ?_
  refine j_if_eq (pc := 4) (tgt := 22) dX11_ice_4 (by decide) (fun c3 => ?_) (fun c3 => ?_)
  · rw [if_pos c3] at H
    refine j_iconst (pc := 22) (v := -1) dX11_ice_22 (by decide) ?_
    exact j_ireturn (pc := 23) dX11_ice_23 rfl (ri_1 H) (ri_2 H)
  · rw [if_neg c3] at H
    refine j_iload_n (pc := 7) dX11_ice_7 rfl ?_
    refine j_iconst (pc := 8) (v := 1) dX11_ice_8 (by decide) ?_
    refine j_bipush (pc := 9) (v := 20) dX11_ice_9 (by decide) ?_
    obtain ⟨r5, h4, eh4, H⟩ := bd_x H
    refine j_callS (pc := 11) dX11_ice_11 mlX11_81 wyX11_between (tX11_between eh4) (by decide) rfl (by simp [Value.category]) rfl ?_
    refine j_if_eq (pc := 14) (tgt := 22) dX11_ice_14 (by decide) (fun c6 => ?_) (fun c6 => ?_)
    · rw [if_pos c6] at H
      refine j_iconst (pc := 22) (v := -1) dX11_ice_22 (by decide) ?_
      exact j_ireturn (pc := 23) dX11_ice_23 rfl (ri_1 H) (ri_2 H)
    · rw [if_neg c6] at H
      refine j_iload_n (pc := 17) dX11_ice_17 rfl ?_
      refine j_iload_n (pc := 18) dX11_ice_18 rfl ?_
      refine j_icmp_gt (pc := 19) (tgt := 24) dX11_ice_19 (by decide) (fun c7 => ?_) (fun c7 => ?_)
      · rw [if_pos c7] at H
        refine j_aload_n (pc := 24) dX11_ice_24 rfl ?_
        refine j_getR (pc := 25) (b := 7) dX11_ice_25 flX11_56 rfl ?_
        refine j_iload_n (pc := 28) dX11_ice_28 rfl ?_
        refine j_aload_n (pc := 29) dX11_ice_29 rfl ?_
        refine j_getR (pc := 30) (b := 1) dX11_ice_30 flX11_10 rfl ?_
        obtain ⟨r9, h8, eh8, H⟩ := bd_x H
        refine j_callV (pc := 33) dX11_ice_33 mlX11_180 wyX0_momentNow (tX0_momentNow eh8) (by decide) rfl rfl rfl rfl (by simp [Value.category]) rfl ?_
        obtain ⟨r11, h10, eh10, H⟩ := bd_x H
        refine j_callS (pc := 36) dX11_ice_36 mlX11_336 wyX3_pushOf (tX3_pushOf eh10) (by decide) rfl (by simp [Value.category]) rfl ?_
        obtain ⟨h12, eh12, H⟩ := bv_x H
        refine j_callV (pc := 39) dX11_ice_39 mlX11_339 wyX3_begin (tX3_begin eh12) (by decide) rfl rfl rfl rfl (by simp [Value.category]) rfl ?_
        refine j_iconst (pc := 42) (v := 0) dX11_ice_42 (by decide) ?_
        refine j_istore_n (pc := 43) (L' := [some (.ref 0), some (.int p1), some (.int p2), some (.int (0 : Int32)), none, none]) dX11_ice_43 (by decide) rfl ?_
        refine Jx.sub (L' := [some (.ref 0), none, some (.int p2), some (.int (0 : Int32)), none, none]) (⟨rfl, ⟨rfl, ⟨rfl, trivial⟩⟩⟩) ?_
        exact jX11_ice_44 FU p2 (0 : Int32) h12 H
      · rw [if_neg c7] at H
        refine j_iconst (pc := 22) (v := -1) dX11_ice_22 (by decide) ?_
        exact j_ireturn (pc := 23) dX11_ice_23 rfl (ri_1 H) (ri_2 H)

noncomputable def fX11_keep (p1 : Int32) (h : HS) : Option (Int32 × HS) := bd (fX11_between p1 (0 : Int32) (2 : Int32) h) (fun r2 h1 => if r2 = 0 then (some ((0 : Int32), h1)) else (bv (fX0_keepUnder p1 h1) (fun h4 => some ((1 : Int32), h4))))
set_option maxRecDepth 100000 in
theorem tX11_keep {p1 : Int32} {r : Int32} {h h0 : HS} (H : fX11_keep p1 h = some (r, h0)) : Cn skC yX11_keep cX11_keep 2 (some .boolean) 1 [.ref 0, .int p1] h (some (.int r)) h0 := by
  refine Cn_of (L := [some (.ref 0), some (.int p1)]) (by decide +kernel) (by simp [lg_sl, Value.category]) (fun ad => by simp [lg_sl, tv, Value.category]) (⟨rfl, ⟨rfl, trivial⟩⟩) ?_
  unfold fX11_keep at H
  refine j_iload_n (pc := 0) dX11_keep_0 rfl ?_
  refine j_iconst (pc := 1) (v := 0) dX11_keep_1 (by decide) ?_
  refine j_iconst (pc := 2) (v := 2) dX11_keep_2 (by decide) ?_
  obtain ⟨r2, h1, eh1, H⟩ := bd_x H
  refine j_callS (pc := 3) dX11_keep_3 mlX11_81 wyX11_between (tX11_between eh1) (by decide) rfl (by simp [Value.category]) rfl ?_
  refine j_if_ne (pc := 6) (tgt := 11) dX11_keep_6 (by decide) (fun c3 => ?_) (fun c3 => ?_)
  · rw [if_neg c3] at H
    refine j_aload_n (pc := 11) dX11_keep_11 rfl ?_
    refine j_getR (pc := 12) (b := 1) dX11_keep_12 flX11_10 rfl ?_
    refine j_iload_n (pc := 15) dX11_keep_15 rfl ?_
    obtain ⟨h4, eh4, H⟩ := bv_x H
    refine j_callV (pc := 16) dX11_keep_16 mlX11_433 wyX0_keepUnder (tX0_keepUnder eh4) (by decide) rfl rfl rfl rfl (by simp [Value.category]) rfl ?_
    refine j_iconst (pc := 19) (v := 1) dX11_keep_19 (by decide) ?_
    exact j_zreturn (pc := 20) dX11_keep_20 rfl (rz1 H) (ri_2 H)
  · rw [if_pos c3] at H
    refine j_iconst (pc := 9) (v := 0) dX11_keep_9 (by decide) ?_
    exact j_zreturn (pc := 10) dX11_keep_10 rfl (rz0 H) (ri_2 H)

noncomputable def fX11_again (p1 : Int32) (h : HS) : Option (Int32 × HS) := bd (fX11_between p1 (0 : Int32) (2 : Int32) h) (fun r2 h1 => if r2 = 0 then (some ((0 : Int32), h1)) else (ck (inb p1 3) (if (gI h1 22 p1.toNatClampNeg) = (-1 : Int32) then (some ((0 : Int32), h1)) else (bv (fX0_takeAgain p1 h1) (fun h6 => some ((1 : Int32), h6))))))
set_option maxRecDepth 100000 in
theorem tX11_again {p1 : Int32} {r : Int32} {h h0 : HS} (H : fX11_again p1 h = some (r, h0)) : Cn skC yX11_again cX11_again 2 (some .boolean) 1 [.ref 0, .int p1] h (some (.int r)) h0 := by
  refine Cn_of (L := [some (.ref 0), some (.int p1)]) (by decide +kernel) (by simp [lg_sl, Value.category]) (fun ad => by simp [lg_sl, tv, Value.category]) (⟨rfl, ⟨rfl, trivial⟩⟩) ?_
  unfold fX11_again at H
  refine j_iload_n (pc := 0) dX11_again_0 rfl ?_
  refine j_iconst (pc := 1) (v := 0) dX11_again_1 (by decide) ?_
  refine j_iconst (pc := 2) (v := 2) dX11_again_2 (by decide) ?_
  obtain ⟨r2, h1, eh1, H⟩ := bd_x H
  refine j_callS (pc := 3) dX11_again_3 mlX11_81 wyX11_between (tX11_between eh1) (by decide) rfl (by simp [Value.category]) rfl ?_
  refine j_if_eq (pc := 6) (tgt := 22) dX11_again_6 (by decide) (fun c3 => ?_) (fun c3 => ?_)
  · rw [if_pos c3] at H
    refine j_iconst (pc := 22) (v := 0) dX11_again_22 (by decide) ?_
    exact j_zreturn (pc := 23) dX11_again_23 rfl (rz0 H) (ri_2 H)
  · rw [if_neg c3] at H
    refine j_aload_n (pc := 9) dX11_again_9 rfl ?_
    refine j_getR (pc := 10) (b := 1) dX11_again_10 flX11_10 rfl ?_
    refine j_getR (pc := 13) (b := 22) dX11_again_13 flX11_436 rfl ?_
    refine j_iload_n (pc := 16) dX11_again_16 rfl ?_
    obtain ⟨b4, H⟩ := ck_x H
    refine j_iaload (pc := 17) dX11_again_17 rfl b4 rfl ?_
    refine j_iconst (pc := 18) (v := -1) dX11_again_18 (by decide) ?_
    refine j_icmp_ne (pc := 19) (tgt := 24) dX11_again_19 (by decide) (fun c5 => ?_) (fun c5 => ?_)
    · rw [if_neg c5] at H
      refine j_aload_n (pc := 24) dX11_again_24 rfl ?_
      refine j_getR (pc := 25) (b := 1) dX11_again_25 flX11_10 rfl ?_
      refine j_iload_n (pc := 28) dX11_again_28 rfl ?_
      obtain ⟨h6, eh6, H⟩ := bv_x H
      refine j_callV (pc := 29) dX11_again_29 mlX11_439 wyX0_takeAgain (tX0_takeAgain eh6) (by decide) rfl rfl rfl rfl (by simp [Value.category]) rfl ?_
      refine j_iconst (pc := 32) (v := 1) dX11_again_32 (by decide) ?_
      exact j_zreturn (pc := 33) dX11_again_33 rfl (rz1 H) (ri_2 H)
    · rw [if_pos c5] at H
      refine j_iconst (pc := 22) (v := 0) dX11_again_22 (by decide) ?_
      exact j_zreturn (pc := 23) dX11_again_23 rfl (rz0 H) (ri_2 H)

noncomputable def fX11_seed (p1 : Int32) (h : HS) : Option (Int32 × HS) := nm ((gI h 1 8)) (fun v2_1 => nm (pI h 1 8 p1) (fun h2 => some (v2_1, h2)))
set_option maxRecDepth 100000 in
theorem tX11_seed {p1 : Int32} {r : Int32} {h h0 : HS} (H : fX11_seed p1 h = some (r, h0)) : Cn skC yX11_seed cX11_seed 3 (some .int) 0 [.ref 0, .int p1] h (some (.int r)) h0 := by
  refine Cn_of (L := [some (.ref 0), some (.int p1), none]) (by decide +kernel) (by simp [lg_sl, Value.category]) (fun ad => by simp [lg_sl, tv, Value.category]) (⟨rfl, ⟨rfl, trivial⟩⟩) ?_
  unfold fX11_seed at H
  refine j_aload_n (pc := 0) dX11_seed_0 rfl ?_
  refine j_getR (pc := 1) (b := 1) dX11_seed_1 flX11_10 rfl ?_
  refine j_getI (pc := 4) dX11_seed_4 flX11_442 rfl ?_
  obtain ⟨v2_1, ev2_1, H⟩ := nm_x H
  refine j_topi ev2_1 ?_
  refine j_istore_n (pc := 7) (L' := [some (.ref 0), some (.int p1), some (.int v2_1)]) dX11_seed_7 (by decide) rfl ?_
  refine j_aload_n (pc := 8) dX11_seed_8 rfl ?_
  refine j_getR (pc := 9) (b := 1) dX11_seed_9 flX11_10 rfl ?_
  refine j_iload_n (pc := 12) dX11_seed_12 rfl ?_
  obtain ⟨h2, eh2, H⟩ := nm_x H
  refine j_putI (pc := 13) dX11_seed_13 fpX11_442 rfl h2 eh2 ?_
  refine j_iload_n (pc := 16) dX11_seed_16 rfl ?_
  exact j_ireturn (pc := 17) dX11_seed_17 rfl (ri_1 H) (ri_2 H)

noncomputable def fX11_lie (h : HS) : Option (Int32 × HS) := bd (fX4_thatHold h) (fun r2 h1 => if r2 = 0 then (some ((-2 : Int32), h1)) else (bd (fX0_draw r2 h1) (fun r5 h4 => bd (fX4_holding r5 h4) (fun r7 h6 => bd (fX4_there r7 h6) (fun r9 h8 => if r9 = 0 then (some ((-2 : Int32), h8)) else (ck (inb r7 15) (bd (fX0_draw (((gI h8 29 r7.toNatClampNeg) + (1 : Int32))) h8) (fun r13 h12 => ck (inb r7 15) (nm (pI h12 30 r7.toNatClampNeg r13) (fun h14 => some (r7, h14)))))))))))
set_option maxRecDepth 100000 in
theorem tX11_lie {r : Int32} {h h0 : HS} (H : fX11_lie h = some (r, h0)) : Cn skC yX11_lie cX11_lie 3 (some .int) 1 [.ref 0] h (some (.int r)) h0 := by
  refine Cn_of (L := [some (.ref 0), none, none]) (by decide +kernel) (by simp [lg_sl, Value.category]) (fun ad => by simp [lg_sl, tv, Value.category]) (⟨rfl, trivial⟩) ?_
  unfold fX11_lie at H
  refine j_aload_n (pc := 0) dX11_lie_0 rfl ?_
  refine j_getR (pc := 1) (b := 2) dX11_lie_1 flX11_20 rfl ?_
  obtain ⟨r2, h1, eh1, H⟩ := bd_x H
  refine j_callV (pc := 4) dX11_lie_4 mlX11_445 wyX4_thatHold (tX4_thatHold eh1) (by decide) rfl rfl rfl rfl (by simp [Value.category]) rfl ?_
  refine j_istore_n (pc := 7) (L' := [some (.ref 0), some (.int r2), none]) dX11_lie_7 (by decide) rfl ?_
  refine j_iload_n (pc := 8) dX11_lie_8 rfl ?_
  refine j_if_ne (pc := 9) (tgt := 15) dX11_lie_9 (by decide) (fun c3 => ?_) (fun c3 => ?_)
  · rw [if_neg c3] at H
    refine j_aload_n (pc := 15) dX11_lie_15 rfl ?_
    refine j_getR (pc := 16) (b := 2) dX11_lie_16 flX11_20 rfl ?_
    refine j_aload_n (pc := 19) dX11_lie_19 rfl ?_
    refine j_getR (pc := 20) (b := 1) dX11_lie_20 flX11_10 rfl ?_
    refine j_iload_n (pc := 23) dX11_lie_23 rfl ?_
    obtain ⟨r5, h4, eh4, H⟩ := bd_x H
    refine j_callV (pc := 24) dX11_lie_24 mlX11_448 wyX0_draw (tX0_draw eh4) (by decide) rfl rfl rfl rfl (by simp [Value.category]) rfl ?_
    obtain ⟨r7, h6, eh6, H⟩ := bd_x H
    refine j_callV (pc := 27) dX11_lie_27 mlX11_451 wyX4_holding (tX4_holding eh6) (by decide) rfl rfl rfl rfl (by simp [Value.category]) rfl ?_
    refine j_istore_n (pc := 30) (L' := [some (.ref 0), some (.int r2), some (.int r7)]) dX11_lie_30 (by decide) rfl ?_
    refine j_aload_n (pc := 31) dX11_lie_31 rfl ?_
    refine j_getR (pc := 32) (b := 2) dX11_lie_32 flX11_20 rfl ?_
    refine j_iload_n (pc := 35) dX11_lie_35 rfl ?_
    obtain ⟨r9, h8, eh8, H⟩ := bd_x H
    refine j_callV (pc := 36) dX11_lie_36 mlX11_91 wyX4_there (tX4_there eh8) (by decide) rfl rfl rfl rfl (by simp [Value.category]) rfl ?_
    refine j_if_ne (pc := 39) (tgt := 45) dX11_lie_39 (by decide) (fun c10 => ?_) (fun c10 => ?_)
    · rw [if_neg c10] at H
      refine j_aload_n (pc := 45) dX11_lie_45 rfl ?_
      refine j_getR (pc := 46) (b := 2) dX11_lie_46 flX11_20 rfl ?_
      refine j_getR (pc := 49) (b := 30) dX11_lie_49 flX11_98 rfl ?_
      refine j_iload_n (pc := 52) dX11_lie_52 rfl ?_
      refine j_aload_n (pc := 53) dX11_lie_53 rfl ?_
      refine j_getR (pc := 54) (b := 1) dX11_lie_54 flX11_10 rfl ?_
      refine j_aload_n (pc := 57) dX11_lie_57 rfl ?_
      refine j_getR (pc := 58) (b := 2) dX11_lie_58 flX11_20 rfl ?_
      refine j_getR (pc := 61) (b := 29) dX11_lie_61 flX11_95 rfl ?_
      refine j_iload_n (pc := 64) dX11_lie_64 rfl ?_
      obtain ⟨b11, H⟩ := ck_x H
      refine j_iaload (pc := 65) dX11_lie_65 rfl b11 rfl ?_
      refine j_iconst (pc := 66) (v := 1) dX11_lie_66 (by decide) ?_
      refine j_iadd (pc := 67) dX11_lie_67 ?_
      obtain ⟨r13, h12, eh12, H⟩ := bd_x H
      refine j_callV (pc := 68) dX11_lie_68 mlX11_448 wyX0_draw (tX0_draw eh12) (by decide) rfl rfl rfl rfl (by simp [Value.category]) rfl ?_
      obtain ⟨b15, H⟩ := ck_x H
      obtain ⟨h14, eh14, H⟩ := nm_x H
      refine j_iastore (pc := 71) dX11_lie_71 rfl b15 rfl h14 eh14 ?_
      refine j_iload_n (pc := 72) dX11_lie_72 rfl ?_
      exact j_ireturn (pc := 73) dX11_lie_73 rfl (ri_1 H) (ri_2 H)
    · rw [if_pos c10] at H
      refine j_bipush (pc := 42) (v := -2) dX11_lie_42 (by decide) ?_
      exact j_ireturn (pc := 44) dX11_lie_44 rfl (ri_1 H) (ri_2 H)
  · rw [if_pos c3] at H
    refine j_bipush (pc := 12) (v := -2) dX11_lie_12 (by decide) ?_
    exact j_ireturn (pc := 14) dX11_lie_14 rfl (ri_1 H) (ri_2 H)

noncomputable def fX11_count (p1 : Int32) (h : HS) : Option (Int32 × HS) := if p1 = (0 : Int32) then (some ((gI h 2 8), h)) else (if p1 = (1 : Int32) then (some ((gI h 3 2), h)) else (if p1 = (2 : Int32) then (some ((gI h 5 5), h)) else (if p1 = (3 : Int32) then (some ((gI h 6 3), h)) else (if p1 = (4 : Int32) then (some ((gI h 8 3), h)) else (if p1 = (5 : Int32) then (some ((gI h 8 6), h)) else (if p1 = (6 : Int32) then (some ((gI h 1 6), h)) else (if p1 = (7 : Int32) then (some ((gI h 1 7), h)) else (if p1 = (8 : Int32) then (some ((gI h 4 1), h)) else (if p1 = (9 : Int32) then (some ((gI h 0 5), h)) else (some ((-1 : Int32), h)))))))))))
set_option maxRecDepth 100000 in
theorem tX11_count {p1 : Int32} {r : Int32} {h h0 : HS} (H : fX11_count p1 h = some (r, h0)) : Cn skC yX11_count cX11_count 2 (some .int) 0 [.ref 0, .int p1] h (some (.int r)) h0 := by
  refine Cn_of (L := [some (.ref 0), some (.int p1)]) (by decide +kernel) (by simp [lg_sl, Value.category]) (fun ad => by simp [lg_sl, tv, Value.category]) (⟨rfl, ⟨rfl, trivial⟩⟩) ?_
  unfold fX11_count at H
  refine j_iload_n (pc := 0) dX11_count_0 rfl ?_
  by_cases c1 : p1 = 0
  · rw [if_pos c1] at H
    refine j_tableIn (pc := 1) (tgt := 56) dX11_count_1 (by rw [c1]; decide) (by rw [c1]; decide) (by rw [c1]; rfl) (by decide) ?_
    refine j_aload_n (pc := 56) dX11_count_56 rfl ?_
    refine j_getR (pc := 57) (b := 2) dX11_count_57 flX11_20 rfl ?_
    refine j_getI (pc := 60) dX11_count_60 flX11_104 rfl ?_
    exact j_ireturn (pc := 63) dX11_count_63 rfl (ri_1 H) (ri_2 H)
  · rw [if_neg c1] at H
    by_cases c2 : p1 = 1
    · rw [if_pos c2] at H
      refine j_tableIn (pc := 1) (tgt := 64) dX11_count_1 (by rw [c2]; decide) (by rw [c2]; decide) (by rw [c2]; rfl) (by decide) ?_
      refine j_aload_n (pc := 64) dX11_count_64 rfl ?_
      refine j_getR (pc := 65) (b := 3) dX11_count_65 flX11_25 rfl ?_
      refine j_getI (pc := 68) dX11_count_68 flX11_148 rfl ?_
      exact j_ireturn (pc := 71) dX11_count_71 rfl (ri_1 H) (ri_2 H)
    · rw [if_neg c2] at H
      by_cases c3 : p1 = 2
      · rw [if_pos c3] at H
        refine j_tableIn (pc := 1) (tgt := 72) dX11_count_1 (by rw [c3]; decide) (by rw [c3]; decide) (by rw [c3]; rfl) (by decide) ?_
        refine j_aload_n (pc := 72) dX11_count_72 rfl ?_
        refine j_getR (pc := 73) (b := 5) dX11_count_73 flX11_42 rfl ?_
        refine j_getI (pc := 76) dX11_count_76 flX11_220 rfl ?_
        exact j_ireturn (pc := 79) dX11_count_79 rfl (ri_1 H) (ri_2 H)
      · rw [if_neg c3] at H
        by_cases c4 : p1 = 3
        · rw [if_pos c4] at H
          refine j_tableIn (pc := 1) (tgt := 80) dX11_count_1 (by rw [c4]; decide) (by rw [c4]; decide) (by rw [c4]; rfl) (by decide) ?_
          refine j_aload_n (pc := 80) dX11_count_80 rfl ?_
          refine j_getR (pc := 81) (b := 6) dX11_count_81 flX11_49 rfl ?_
          refine j_getI (pc := 84) dX11_count_84 flX11_454 rfl ?_
          exact j_ireturn (pc := 87) dX11_count_87 rfl (ri_1 H) (ri_2 H)
        · rw [if_neg c4] at H
          by_cases c5 : p1 = 4
          · rw [if_pos c5] at H
            refine j_tableIn (pc := 1) (tgt := 88) dX11_count_1 (by rw [c5]; decide) (by rw [c5]; decide) (by rw [c5]; rfl) (by decide) ?_
            refine j_aload_n (pc := 88) dX11_count_88 rfl ?_
            refine j_getR (pc := 89) (b := 8) dX11_count_89 flX11_63 rfl ?_
            refine j_getI (pc := 92) dX11_count_92 flX11_354 rfl ?_
            exact j_ireturn (pc := 95) dX11_count_95 rfl (ri_1 H) (ri_2 H)
          · rw [if_neg c5] at H
            by_cases c6 : p1 = 5
            · rw [if_pos c6] at H
              refine j_tableIn (pc := 1) (tgt := 96) dX11_count_1 (by rw [c6]; decide) (by rw [c6]; decide) (by rw [c6]; rfl) (by decide) ?_
              refine j_aload_n (pc := 96) dX11_count_96 rfl ?_
              refine j_getR (pc := 97) (b := 8) dX11_count_97 flX11_63 rfl ?_
              refine j_getI (pc := 100) dX11_count_100 flX11_455 rfl ?_
              exact j_ireturn (pc := 103) dX11_count_103 rfl (ri_1 H) (ri_2 H)
            · rw [if_neg c6] at H
              by_cases c7 : p1 = 6
              · rw [if_pos c7] at H
                refine j_tableIn (pc := 1) (tgt := 104) dX11_count_1 (by rw [c7]; decide) (by rw [c7]; decide) (by rw [c7]; rfl) (by decide) ?_
                refine j_aload_n (pc := 104) dX11_count_104 rfl ?_
                refine j_getR (pc := 105) (b := 1) dX11_count_105 flX11_10 rfl ?_
                refine j_getI (pc := 108) dX11_count_108 flX11_379 rfl ?_
                exact j_ireturn (pc := 111) dX11_count_111 rfl (ri_1 H) (ri_2 H)
              · rw [if_neg c7] at H
                by_cases c8 : p1 = 7
                · rw [if_pos c8] at H
                  refine j_tableIn (pc := 1) (tgt := 112) dX11_count_1 (by rw [c8]; decide) (by rw [c8]; decide) (by rw [c8]; rfl) (by decide) ?_
                  refine j_aload_n (pc := 112) dX11_count_112 rfl ?_
                  refine j_getR (pc := 113) (b := 1) dX11_count_113 flX11_10 rfl ?_
                  refine j_getI (pc := 116) dX11_count_116 flX11_240 rfl ?_
                  exact j_ireturn (pc := 119) dX11_count_119 rfl (ri_1 H) (ri_2 H)
                · rw [if_neg c8] at H
                  by_cases c9 : p1 = 8
                  · rw [if_pos c9] at H
                    refine j_tableIn (pc := 1) (tgt := 120) dX11_count_1 (by rw [c9]; decide) (by rw [c9]; decide) (by rw [c9]; rfl) (by decide) ?_
                    refine j_aload_n (pc := 120) dX11_count_120 rfl ?_
                    refine j_getR (pc := 121) (b := 4) dX11_count_121 flX11_29 rfl ?_
                    refine j_getI (pc := 124) dX11_count_124 flX11_288 rfl ?_
                    exact j_ireturn (pc := 127) dX11_count_127 rfl (ri_1 H) (ri_2 H)
                  · rw [if_neg c9] at H
                    by_cases c10 : p1 = 9
                    · rw [if_pos c10] at H
                      refine j_tableIn (pc := 1) (tgt := 128) dX11_count_1 (by rw [c10]; decide) (by rw [c10]; decide) (by rw [c10]; rfl) (by decide) ?_
                      refine j_aload_n (pc := 128) dX11_count_128 rfl ?_
                      refine j_getI (pc := 129) dX11_count_129 flX11_213 rfl ?_
                      exact j_ireturn (pc := 132) dX11_count_132 rfl (ri_1 H) (ri_2 H)
                    · rw [if_neg c10] at H
                      refine j_tableOut (pc := 1) (tgt := 133) dX11_count_1 (tb_out (fun k k1 k2 => ?_)) (by decide) ?_
                      · have hk : k = 0 ∨ k = 1 ∨ k = 2 ∨ k = 3 ∨ k = 4 ∨ k = 5 ∨ k = 6 ∨ k = 7 ∨ k = 8 ∨ k = 9 := by omega
                        rcases hk with rfl | rfl | rfl | rfl | rfl | rfl | rfl | rfl | rfl | rfl
                        · exact c1
                        · exact c2
                        · exact c3
                        · exact c4
                        · exact c5
                        · exact c6
                        · exact c7
                        · exact c8
                        · exact c9
                        · exact c10
                      · refine j_iconst (pc := 133) (v := -1) dX11_count_133 (by decide) ?_
                        exact j_ireturn (pc := 134) dX11_count_134 rfl (ri_1 H) (ri_2 H)

noncomputable def fX11_row (p1 : Int32) (h : HS) : Option (Int32 × HS) := bd (fX11_between p1 (0 : Int32) (((gI h 4 1) - (1 : Int32))) h) (fun r2 h1 => if r2 = 0 then none else (ck (inb p1 20) (some ((gI h1 35 p1.toNatClampNeg), h1))))
set_option maxRecDepth 100000 in
theorem tX11_row {p1 : Int32} {r : Int32} {h h0 : HS} (H : fX11_row p1 h = some (r, h0)) : Cn skC yX11_row cX11_row 2 (some .int) 1 [.ref 0, .int p1] h (some (.int r)) h0 := by
  refine Cn_of (L := [some (.ref 0), some (.int p1)]) (by decide +kernel) (by simp [lg_sl, Value.category]) (fun ad => by simp [lg_sl, tv, Value.category]) (⟨rfl, ⟨rfl, trivial⟩⟩) ?_
  unfold fX11_row at H
  refine j_iload_n (pc := 0) dX11_row_0 rfl ?_
  refine j_iconst (pc := 1) (v := 0) dX11_row_1 (by decide) ?_
  refine j_aload_n (pc := 2) dX11_row_2 rfl ?_
  refine j_getR (pc := 3) (b := 4) dX11_row_3 flX11_29 rfl ?_
  refine j_getI (pc := 6) dX11_row_6 flX11_288 rfl ?_
  refine j_iconst (pc := 9) (v := 1) dX11_row_9 (by decide) ?_
  refine j_isub (pc := 10) dX11_row_10 ?_
  obtain ⟨r2, h1, eh1, H⟩ := bd_x H
  refine j_callS (pc := 11) dX11_row_11 mlX11_81 wyX11_between (tX11_between eh1) (by decide) rfl (by simp [Value.category]) rfl ?_
  refine j_if_ne (pc := 14) (tgt := 28) dX11_row_14 (by decide) (fun c3 => ?_) (fun c3 => ?_)
  · rw [if_neg c3] at H
    refine j_aload_n (pc := 28) dX11_row_28 rfl ?_
    refine j_getR (pc := 29) (b := 4) dX11_row_29 flX11_29 rfl ?_
    refine j_getR (pc := 32) (b := 35) dX11_row_32 flX11_460 rfl ?_
    refine j_iload_n (pc := 35) dX11_row_35 rfl ?_
    obtain ⟨b4, H⟩ := ck_x H
    refine j_iaload (pc := 36) dX11_row_36 rfl b4 rfl ?_
    exact j_ireturn (pc := 37) dX11_row_37 rfl (ri_1 H) (ri_2 H)
  · rw [if_pos c3] at H
    cases H
