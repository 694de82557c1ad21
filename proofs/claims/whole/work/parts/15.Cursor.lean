theorem dX2_begin_0 : decode cX2_begin 0 = .ok (.aload_n 0, 1) := by decide +kernel
theorem dX2_begin_1 : decode cX2_begin 1 = .ok (.aload_n 1, 1) := by decide +kernel
theorem dX2_begin_2 : decode cX2_begin 2 = .ok (.putfield 9, 3) := by decide +kernel
theorem dX2_begin_5 : decode cX2_begin 5 = .ok (.aload_n 0, 1) := by decide +kernel
theorem dX2_begin_6 : decode cX2_begin 6 = .ok (.iconst 0, 1) := by decide +kernel
theorem dX2_begin_7 : decode cX2_begin 7 = .ok (.iload_n 2, 1) := by decide +kernel
theorem dX2_begin_8 : decode cX2_begin 8 = .ok (.invokestatic 19, 3) := by decide +kernel
theorem dX2_begin_11 : decode cX2_begin 11 = .ok (.putfield 25, 3) := by decide +kernel
theorem dX2_begin_14 : decode cX2_begin 14 = .ok (.aload_n 0, 1) := by decide +kernel
theorem dX2_begin_15 : decode cX2_begin 15 = .ok (.iload_n 3, 1) := by decide +kernel
theorem dX2_begin_16 : decode cX2_begin 16 = .ok (.aload_n 1, 1) := by decide +kernel
theorem dX2_begin_17 : decode cX2_begin 17 = .ok (.arraylength, 1) := by decide +kernel
theorem dX2_begin_18 : decode cX2_begin 18 = .ok (.invokestatic 28, 3) := by decide +kernel
theorem dX2_begin_21 : decode cX2_begin 21 = .ok (.putfield 31, 3) := by decide +kernel
theorem dX2_begin_24 : decode cX2_begin 24 = .ok (.aload_n 0, 1) := by decide +kernel
theorem dX2_begin_25 : decode cX2_begin 25 = .ok (.iconst (-1), 1) := by decide +kernel
theorem dX2_begin_26 : decode cX2_begin 26 = .ok (.putfield 15, 3) := by decide +kernel
theorem dX2_begin_29 : decode cX2_begin 29 = .ok (.return_, 1) := by decide +kernel
theorem dX2_peek_0 : decode cX2_peek 0 = .ok (.aload_n 0, 1) := by decide +kernel
theorem dX2_peek_1 : decode cX2_peek 1 = .ok (.getfield 15, 3) := by decide +kernel
theorem dX2_peek_4 : decode cX2_peek 4 = .ok (.iconst (-1), 1) := by decide +kernel
theorem dX2_peek_5 : decode cX2_peek 5 = .ok (.if_icmp .ne 33, 3) := by decide +kernel
theorem dX2_peek_8 : decode cX2_peek 8 = .ok (.aload_n 0, 1) := by decide +kernel
theorem dX2_peek_9 : decode cX2_peek 9 = .ok (.getfield 25, 3) := by decide +kernel
theorem dX2_peek_12 : decode cX2_peek 12 = .ok (.ifCond .lt 26, 3) := by decide +kernel
theorem dX2_peek_15 : decode cX2_peek 15 = .ok (.aload_n 0, 1) := by decide +kernel
theorem dX2_peek_16 : decode cX2_peek 16 = .ok (.getfield 25, 3) := by decide +kernel
theorem dX2_peek_19 : decode cX2_peek 19 = .ok (.aload_n 0, 1) := by decide +kernel
theorem dX2_peek_20 : decode cX2_peek 20 = .ok (.getfield 31, 3) := by decide +kernel
theorem dX2_peek_23 : decode cX2_peek 23 = .ok (.if_icmp .ge 15, 3) := by decide +kernel
theorem dX2_peek_26 : decode cX2_peek 26 = .ok (.aload_n 0, 1) := by decide +kernel
theorem dX2_peek_27 : decode cX2_peek 27 = .ok (.getfield 9, 3) := by decide +kernel
theorem dX2_peek_30 : decode cX2_peek 30 = .ok (.aload_n 0, 1) := by decide +kernel
theorem dX2_peek_31 : decode cX2_peek 31 = .ok (.getfield 25, 3) := by decide +kernel
theorem dX2_peek_34 : decode cX2_peek 34 = .ok (.iaload, 1) := by decide +kernel
theorem dX2_peek_35 : decode cX2_peek 35 = .ok (.goto 4, 3) := by decide +kernel
theorem dX2_peek_38 : decode cX2_peek 38 = .ok (.iconst (-1), 1) := by decide +kernel
theorem dX2_peek_39 : decode cX2_peek 39 = .ok (.ireturn, 1) := by decide +kernel
theorem dX2_fail_0 : decode cX2_fail 0 = .ok (.aload_n 0, 1) := by decide +kernel
theorem dX2_fail_1 : decode cX2_fail 1 = .ok (.getfield 15, 3) := by decide +kernel
theorem dX2_fail_4 : decode cX2_fail 4 = .ok (.iconst (-1), 1) := by decide +kernel
theorem dX2_fail_5 : decode cX2_fail 5 = .ok (.if_icmp .ne 8, 3) := by decide +kernel
theorem dX2_fail_8 : decode cX2_fail 8 = .ok (.aload_n 0, 1) := by decide +kernel
theorem dX2_fail_9 : decode cX2_fail 9 = .ok (.iload_n 1, 1) := by decide +kernel
theorem dX2_fail_10 : decode cX2_fail 10 = .ok (.putfield 15, 3) := by decide +kernel
theorem dX2_fail_13 : decode cX2_fail 13 = .ok (.return_, 1) := by decide +kernel
theorem dX2_loadBelow_0 : decode cX2_loadBelow 0 = .ok (.aload_n 0, 1) := by decide +kernel
theorem dX2_loadBelow_1 : decode cX2_loadBelow 1 = .ok (.invokevirtual 34, 3) := by decide +kernel
theorem dX2_loadBelow_4 : decode cX2_loadBelow 4 = .ok (.invokestatic 42, 3) := by decide +kernel
theorem dX2_loadBelow_7 : decode cX2_loadBelow 7 = .ok (.ifCond .ne 13, 3) := by decide +kernel
theorem dX2_loadBelow_10 : decode cX2_loadBelow 10 = .ok (.aload_n 0, 1) := by decide +kernel
theorem dX2_loadBelow_11 : decode cX2_loadBelow 11 = .ok (.aload_n 0, 1) := by decide +kernel
theorem dX2_loadBelow_12 : decode cX2_loadBelow 12 = .ok (.getfield 25, 3) := by decide +kernel
theorem dX2_loadBelow_15 : decode cX2_loadBelow 15 = .ok (.invokevirtual 38, 3) := by decide +kernel
theorem dX2_loadBelow_18 : decode cX2_loadBelow 18 = .ok (.iconst 0, 1) := by decide +kernel
theorem dX2_loadBelow_19 : decode cX2_loadBelow 19 = .ok (.ireturn, 1) := by decide +kernel
theorem dX2_loadBelow_20 : decode cX2_loadBelow 20 = .ok (.aload_n 0, 1) := by decide +kernel
theorem dX2_loadBelow_21 : decode cX2_loadBelow 21 = .ok (.invokevirtual 34, 3) := by decide +kernel
theorem dX2_loadBelow_24 : decode cX2_loadBelow 24 = .ok (.bipush 48, 2) := by decide +kernel
theorem dX2_loadBelow_26 : decode cX2_loadBelow 26 = .ok (.isub, 1) := by decide +kernel
theorem dX2_loadBelow_27 : decode cX2_loadBelow 27 = .ok (.istore_n 2, 1) := by decide +kernel
theorem dX2_loadBelow_28 : decode cX2_loadBelow 28 = .ok (.aload_n 0, 1) := by decide +kernel
theorem dX2_loadBelow_29 : decode cX2_loadBelow 29 = .ok (.dup, 1) := by decide +kernel
theorem dX2_loadBelow_30 : decode cX2_loadBelow 30 = .ok (.getfield 25, 3) := by decide +kernel
theorem dX2_loadBelow_33 : decode cX2_loadBelow 33 = .ok (.iconst 1, 1) := by decide +kernel
theorem dX2_loadBelow_34 : decode cX2_loadBelow 34 = .ok (.iadd, 1) := by decide +kernel
theorem dX2_loadBelow_35 : decode cX2_loadBelow 35 = .ok (.putfield 25, 3) := by decide +kernel
theorem dX2_loadBelow_38 : decode cX2_loadBelow 38 = .ok (.aload_n 0, 1) := by decide +kernel
theorem dX2_loadBelow_39 : decode cX2_loadBelow 39 = .ok (.invokevirtual 34, 3) := by decide +kernel
theorem dX2_loadBelow_42 : decode cX2_loadBelow 42 = .ok (.invokestatic 42, 3) := by decide +kernel
theorem dX2_loadBelow_45 : decode cX2_loadBelow 45 = .ok (.ifCond .eq 26, 3) := by decide +kernel
theorem dX2_loadBelow_48 : decode cX2_loadBelow 48 = .ok (.iload_n 2, 1) := by decide +kernel
theorem dX2_loadBelow_49 : decode cX2_loadBelow 49 = .ok (.bipush 10, 2) := by decide +kernel
theorem dX2_loadBelow_51 : decode cX2_loadBelow 51 = .ok (.imul, 1) := by decide +kernel
theorem dX2_loadBelow_52 : decode cX2_loadBelow 52 = .ok (.aload_n 0, 1) := by decide +kernel
theorem dX2_loadBelow_53 : decode cX2_loadBelow 53 = .ok (.invokevirtual 34, 3) := by decide +kernel
theorem dX2_loadBelow_56 : decode cX2_loadBelow 56 = .ok (.iadd, 1) := by decide +kernel
theorem dX2_loadBelow_57 : decode cX2_loadBelow 57 = .ok (.bipush 48, 2) := by decide +kernel
theorem dX2_loadBelow_59 : decode cX2_loadBelow 59 = .ok (.isub, 1) := by decide +kernel
theorem dX2_loadBelow_60 : decode cX2_loadBelow 60 = .ok (.istore_n 2, 1) := by decide +kernel
theorem dX2_loadBelow_61 : decode cX2_loadBelow 61 = .ok (.aload_n 0, 1) := by decide +kernel
theorem dX2_loadBelow_62 : decode cX2_loadBelow 62 = .ok (.dup, 1) := by decide +kernel
theorem dX2_loadBelow_63 : decode cX2_loadBelow 63 = .ok (.getfield 25, 3) := by decide +kernel
theorem dX2_loadBelow_66 : decode cX2_loadBelow 66 = .ok (.iconst 1, 1) := by decide +kernel
theorem dX2_loadBelow_67 : decode cX2_loadBelow 67 = .ok (.iadd, 1) := by decide +kernel
theorem dX2_loadBelow_68 : decode cX2_loadBelow 68 = .ok (.putfield 25, 3) := by decide +kernel
theorem dX2_loadBelow_71 : decode cX2_loadBelow 71 = .ok (.iload_n 2, 1) := by decide +kernel
theorem dX2_loadBelow_72 : decode cX2_loadBelow 72 = .ok (.iload_n 1, 1) := by decide +kernel
theorem dX2_loadBelow_73 : decode cX2_loadBelow 73 = .ok (.if_icmp .lt 13, 3) := by decide +kernel
theorem dX2_loadBelow_76 : decode cX2_loadBelow 76 = .ok (.aload_n 0, 1) := by decide +kernel
theorem dX2_loadBelow_77 : decode cX2_loadBelow 77 = .ok (.aload_n 0, 1) := by decide +kernel
theorem dX2_loadBelow_78 : decode cX2_loadBelow 78 = .ok (.getfield 25, 3) := by decide +kernel
theorem dX2_loadBelow_81 : decode cX2_loadBelow 81 = .ok (.iconst 1, 1) := by decide +kernel
theorem dX2_loadBelow_82 : decode cX2_loadBelow 82 = .ok (.isub, 1) := by decide +kernel
theorem dX2_loadBelow_83 : decode cX2_loadBelow 83 = .ok (.invokevirtual 38, 3) := by decide +kernel
theorem dX2_loadBelow_86 : decode cX2_loadBelow 86 = .ok (.iload_n 2, 1) := by decide +kernel
theorem dX2_loadBelow_87 : decode cX2_loadBelow 87 = .ok (.ireturn, 1) := by decide +kernel
theorem dX2_expect_0 : decode cX2_expect 0 = .ok (.aload_n 0, 1) := by decide +kernel
theorem dX2_expect_1 : decode cX2_expect 1 = .ok (.invokevirtual 34, 3) := by decide +kernel
theorem dX2_expect_4 : decode cX2_expect 4 = .ok (.iload_n 1, 1) := by decide +kernel
theorem dX2_expect_5 : decode cX2_expect 5 = .ok (.if_icmp .ne 16, 3) := by decide +kernel
theorem dX2_expect_8 : decode cX2_expect 8 = .ok (.aload_n 0, 1) := by decide +kernel
theorem dX2_expect_9 : decode cX2_expect 9 = .ok (.dup, 1) := by decide +kernel
theorem dX2_expect_10 : decode cX2_expect 10 = .ok (.getfield 25, 3) := by decide +kernel
theorem dX2_expect_13 : decode cX2_expect 13 = .ok (.iconst 1, 1) := by decide +kernel
theorem dX2_expect_14 : decode cX2_expect 14 = .ok (.iadd, 1) := by decide +kernel
theorem dX2_expect_15 : decode cX2_expect 15 = .ok (.putfield 25, 3) := by decide +kernel
theorem dX2_expect_18 : decode cX2_expect 18 = .ok (.goto 11, 3) := by decide +kernel
theorem dX2_expect_21 : decode cX2_expect 21 = .ok (.aload_n 0, 1) := by decide +kernel
theorem dX2_expect_22 : decode cX2_expect 22 = .ok (.aload_n 0, 1) := by decide +kernel
theorem dX2_expect_23 : decode cX2_expect 23 = .ok (.getfield 25, 3) := by decide +kernel
theorem dX2_expect_26 : decode cX2_expect 26 = .ok (.invokevirtual 38, 3) := by decide +kernel
theorem dX2_expect_29 : decode cX2_expect 29 = .ok (.return_, 1) := by decide +kernel
theorem dX2_take_0 : decode cX2_take 0 = .ok (.aload_n 0, 1) := by decide +kernel
theorem dX2_take_1 : decode cX2_take 1 = .ok (.invokevirtual 34, 3) := by decide +kernel
theorem dX2_take_4 : decode cX2_take 4 = .ok (.iload_n 1, 1) := by decide +kernel
theorem dX2_take_5 : decode cX2_take 5 = .ok (.if_icmp .ne 7, 3) := by decide +kernel
theorem dX2_take_8 : decode cX2_take 8 = .ok (.iconst 1, 1) := by decide +kernel
theorem dX2_take_9 : decode cX2_take 9 = .ok (.goto 4, 3) := by decide +kernel
theorem dX2_take_12 : decode cX2_take 12 = .ok (.iconst 0, 1) := by decide +kernel
theorem dX2_take_13 : decode cX2_take 13 = .ok (.istore_n 2, 1) := by decide +kernel
theorem dX2_take_14 : decode cX2_take 14 = .ok (.aload_n 0, 1) := by decide +kernel
theorem dX2_take_15 : decode cX2_take 15 = .ok (.dup, 1) := by decide +kernel
theorem dX2_take_16 : decode cX2_take 16 = .ok (.getfield 25, 3) := by decide +kernel
theorem dX2_take_19 : decode cX2_take 19 = .ok (.iload_n 2, 1) := by decide +kernel
theorem dX2_take_20 : decode cX2_take 20 = .ok (.ifCond .eq 7, 3) := by decide +kernel
theorem dX2_take_23 : decode cX2_take 23 = .ok (.iconst 1, 1) := by decide +kernel
theorem dX2_take_24 : decode cX2_take 24 = .ok (.goto 4, 3) := by decide +kernel
theorem dX2_take_27 : decode cX2_take 27 = .ok (.iconst 0, 1) := by decide +kernel
theorem dX2_take_28 : decode cX2_take 28 = .ok (.iadd, 1) := by decide +kernel
theorem dX2_take_29 : decode cX2_take 29 = .ok (.putfield 25, 3) := by decide +kernel
theorem dX2_take_32 : decode cX2_take 32 = .ok (.iload_n 2, 1) := by decide +kernel
theorem dX2_take_33 : decode cX2_take 33 = .ok (.ireturn, 1) := by decide +kernel
theorem dX2_number_0 : decode cX2_number 0 = .ok (.aload_n 0, 1) := by decide +kernel
theorem dX2_number_1 : decode cX2_number 1 = .ok (.invokevirtual 34, 3) := by decide +kernel
theorem dX2_number_4 : decode cX2_number 4 = .ok (.invokestatic 42, 3) := by decide +kernel
theorem dX2_number_7 : decode cX2_number 7 = .ok (.ifCond .ne 11, 3) := by decide +kernel
theorem dX2_number_10 : decode cX2_number 10 = .ok (.aload_n 0, 1) := by decide +kernel
theorem dX2_number_11 : decode cX2_number 11 = .ok (.aload_n 0, 1) := by decide +kernel
theorem dX2_number_12 : decode cX2_number 12 = .ok (.getfield 25, 3) := by decide +kernel
theorem dX2_number_15 : decode cX2_number 15 = .ok (.invokevirtual 38, 3) := by decide +kernel
theorem dX2_number_18 : decode cX2_number 18 = .ok (.iconst 0, 1) := by decide +kernel
theorem dX2_number_19 : decode cX2_number 19 = .ok (.istore_n 2, 1) := by decide +kernel
theorem dX2_number_20 : decode cX2_number 20 = .ok (.iconst 0, 1) := by decide +kernel
theorem dX2_number_21 : decode cX2_number 21 = .ok (.istore_n 3, 1) := by decide +kernel
theorem dX2_number_22 : decode cX2_number 22 = .ok (.iload_n 3, 1) := by decide +kernel
theorem dX2_number_23 : decode cX2_number 23 = .ok (.iload_n 1, 1) := by decide +kernel
theorem dX2_number_24 : decode cX2_number 24 = .ok (.if_icmp .ge 42, 3) := by decide +kernel
theorem dX2_number_27 : decode cX2_number 27 = .ok (.aload_n 0, 1) := by decide +kernel
theorem dX2_number_28 : decode cX2_number 28 = .ok (.invokevirtual 34, 3) := by decide +kernel
theorem dX2_number_31 : decode cX2_number 31 = .ok (.invokestatic 42, 3) := by decide +kernel
theorem dX2_number_34 : decode cX2_number 34 = .ok (.ifCond .eq 32, 3) := by decide +kernel
theorem dX2_number_37 : decode cX2_number 37 = .ok (.iload_n 2, 1) := by decide +kernel
theorem dX2_number_38 : decode cX2_number 38 = .ok (.bipush 10, 2) := by decide +kernel
theorem dX2_number_40 : decode cX2_number 40 = .ok (.imul, 1) := by decide +kernel
theorem dX2_number_41 : decode cX2_number 41 = .ok (.aload_n 0, 1) := by decide +kernel
theorem dX2_number_42 : decode cX2_number 42 = .ok (.invokevirtual 34, 3) := by decide +kernel
theorem dX2_number_45 : decode cX2_number 45 = .ok (.iadd, 1) := by decide +kernel
theorem dX2_number_46 : decode cX2_number 46 = .ok (.bipush 48, 2) := by decide +kernel
theorem dX2_number_48 : decode cX2_number 48 = .ok (.isub, 1) := by decide +kernel
theorem dX2_number_49 : decode cX2_number 49 = .ok (.istore_n 2, 1) := by decide +kernel
theorem dX2_number_50 : decode cX2_number 50 = .ok (.aload_n 0, 1) := by decide +kernel
theorem dX2_number_51 : decode cX2_number 51 = .ok (.dup, 1) := by decide +kernel
theorem dX2_number_52 : decode cX2_number 52 = .ok (.getfield 25, 3) := by decide +kernel
theorem dX2_number_55 : decode cX2_number 55 = .ok (.iconst 1, 1) := by decide +kernel
theorem dX2_number_56 : decode cX2_number 56 = .ok (.iadd, 1) := by decide +kernel
theorem dX2_number_57 : decode cX2_number 57 = .ok (.putfield 25, 3) := by decide +kernel
theorem dX2_number_60 : decode cX2_number 60 = .ok (.iinc 3 1, 3) := by decide +kernel
theorem dX2_number_63 : decode cX2_number 63 = .ok (.goto (-41), 3) := by decide +kernel
theorem dX2_number_66 : decode cX2_number 66 = .ok (.iload_n 2, 1) := by decide +kernel
theorem dX2_number_67 : decode cX2_number 67 = .ok (.ireturn, 1) := by decide +kernel
theorem dX2_finish_0 : decode cX2_finish 0 = .ok (.aload_n 0, 1) := by decide +kernel
theorem dX2_finish_1 : decode cX2_finish 1 = .ok (.getfield 25, 3) := by decide +kernel
theorem dX2_finish_4 : decode cX2_finish 4 = .ok (.aload_n 0, 1) := by decide +kernel
theorem dX2_finish_5 : decode cX2_finish 5 = .ok (.getfield 31, 3) := by decide +kernel
theorem dX2_finish_8 : decode cX2_finish 8 = .ok (.if_icmp .ge 11, 3) := by decide +kernel
theorem dX2_finish_11 : decode cX2_finish 11 = .ok (.aload_n 0, 1) := by decide +kernel
theorem dX2_finish_12 : decode cX2_finish 12 = .ok (.aload_n 0, 1) := by decide +kernel
theorem dX2_finish_13 : decode cX2_finish 13 = .ok (.getfield 25, 3) := by decide +kernel
theorem dX2_finish_16 : decode cX2_finish 16 = .ok (.invokevirtual 38, 3) := by decide +kernel
theorem dX2_finish_19 : decode cX2_finish 19 = .ok (.iload_n 1, 1) := by decide +kernel
theorem dX2_finish_20 : decode cX2_finish 20 = .ok (.aload_n 0, 1) := by decide +kernel
theorem dX2_finish_21 : decode cX2_finish 21 = .ok (.getfield 31, 3) := by decide +kernel
theorem dX2_finish_24 : decode cX2_finish 24 = .ok (.if_icmp .le 11, 3) := by decide +kernel
theorem dX2_finish_27 : decode cX2_finish 27 = .ok (.aload_n 0, 1) := by decide +kernel
theorem dX2_finish_28 : decode cX2_finish 28 = .ok (.aload_n 0, 1) := by decide +kernel
theorem dX2_finish_29 : decode cX2_finish 29 = .ok (.getfield 31, 3) := by decide +kernel
theorem dX2_finish_32 : decode cX2_finish 32 = .ok (.invokevirtual 38, 3) := by decide +kernel
theorem dX2_finish_35 : decode cX2_finish 35 = .ok (.aload_n 0, 1) := by decide +kernel
theorem dX2_finish_36 : decode cX2_finish 36 = .ok (.getfield 15, 3) := by decide +kernel
theorem dX2_finish_39 : decode cX2_finish 39 = .ok (.ireturn, 1) := by decide +kernel
noncomputable def fX2_begin (a : Nat) (p1 : Nat) (p2 : Int32) (p3 : Int32) (h : HS) : Option HS := nm (pR h a 0 (some p1)) (fun h1 => nm (pI h1 a 2 (imax (0 : Int32) p2)) (fun h2 => bA skC 1 p1 (fun n3 => nm (pI h2 a 1 (imin p3 (Int32.ofNat n3))) (fun h4 => nm (pI h4 a 3 (-1 : Int32)) (fun h5 => some h5)))))
set_option maxRecDepth 100000 in
theorem tX2_begin {a : Nat} {p1 : Nat} {p2 : Int32} {p3 : Int32} {h h0 : HS} (ha : skC[a]? = some (0, 2, [2, 0, 0, 0])) (H : fX2_begin a p1 p2 p3 h = some h0) : Cn skC yX2_begin cX2_begin 4 none 0 [.ref a, .ref p1, .int p2, .int p3] h none h0 := by
  refine Cn_of (L := [some (.ref a), some (.ref p1), some (.int p2), some (.int p3)]) (by decide +kernel) (by simp [lg_sl, Value.category]) (fun ad => by simp [lg_sl, tv, Value.category]) (⟨rfl, ⟨rfl, ⟨rfl, ⟨rfl, trivial⟩⟩⟩⟩) ?_
  unfold fX2_begin at H
  refine j_aload_n (pc := 0) dX2_begin_0 rfl ?_
  refine j_aload_n (pc := 1) dX2_begin_1 rfl ?_
  obtain ⟨h1, eh1, H⟩ := nm_x H
  refine j_putQ (pc := 2) dX2_begin_2 fpX2_9 (fun _ => ⟨rfl, rfl⟩) (fk_at ha rfl) h1 eh1 ?_
  refine j_aload_n (pc := 5) dX2_begin_5 rfl ?_
  refine j_iconst (pc := 6) (v := 0) dX2_begin_6 (by decide) ?_
  refine j_iload_n (pc := 7) dX2_begin_7 rfl ?_
  refine j_mmax (pc := 8) dX2_begin_8 wmX2_19 (by simp [Value.category]) ?_
  obtain ⟨h2, eh2, H⟩ := nm_x H
  refine j_putI (pc := 11) dX2_begin_11 fpX2_25 (fk_at ha rfl) h2 eh2 ?_
  refine j_aload_n (pc := 14) dX2_begin_14 rfl ?_
  refine j_iload_n (pc := 15) dX2_begin_15 rfl ?_
  refine j_aload_n (pc := 16) dX2_begin_16 rfl ?_
  obtain ⟨n3, en3, H⟩ := bA_x H
  refine j_alen (pc := 17) dX2_begin_17 en3 rfl ?_
  refine j_mmin (pc := 18) dX2_begin_18 wmX2_28 (by simp [Value.category]) ?_
  obtain ⟨h4, eh4, H⟩ := nm_x H
  refine j_putI (pc := 21) dX2_begin_21 fpX2_31 (fk_at ha rfl) h4 eh4 ?_
  refine j_aload_n (pc := 24) dX2_begin_24 rfl ?_
  refine j_iconst (pc := 25) (v := -1) dX2_begin_25 (by decide) ?_
  obtain ⟨h5, eh5, H⟩ := nm_x H
  refine j_putI (pc := 26) dX2_begin_26 fpX2_15 (fk_at ha rfl) h5 eh5 ?_
  exact j_return (pc := 29) dX2_begin_29 rfl rfl (rv_2 H)

noncomputable def fX2_peek (a : Nat) (h : HS) : Option (Int32 × HS) := if (gI h a 3) = (-1 : Int32) then (if (gI h a 2) < 0 then (some ((-1 : Int32), h)) else (if (gI h a 1) ≤ (gI h a 2) then (some ((-1 : Int32), h)) else (bR (gR h a 0) (fun q4 => bA skC 1 q4 (fun n5 => ck (inb (gI h a 2) n5) (some ((gI h q4 (gI h a 2).toNatClampNeg), h))))))) else (some ((-1 : Int32), h))
set_option maxRecDepth 100000 in
theorem tX2_peek {a : Nat} {r : Int32} {h h0 : HS} (ha : skC[a]? = some (0, 2, [2, 0, 0, 0])) (H : fX2_peek a h = some (r, h0)) : Cn skC yX2_peek cX2_peek 1 (some .int) 0 [.ref a] h (some (.int r)) h0 := by
  refine Cn_of (L := [some (.ref a)]) (by decide +kernel) (by simp [lg_sl, Value.category]) (fun ad => by simp [lg_sl, tv, Value.category]) (⟨rfl, trivial⟩) ?_
  unfold fX2_peek at H
  refine j_aload_n (pc := 0) dX2_peek_0 rfl ?_
  refine j_getI (pc := 1) dX2_peek_1 flX2_15 (fk_at ha rfl) ?_
  refine j_iconst (pc := 4) (v := -1) dX2_peek_4 (by decide) ?_
  refine j_icmp_ne (pc := 5) (tgt := 38) dX2_peek_5 (by decide) (fun c1 => ?_) (fun c1 => ?_)
  · rw [if_neg c1] at H
    refine j_iconst (pc := 38) (v := -1) dX2_peek_38 (by decide) ?_
    exact j_ireturn (pc := 39) dX2_peek_39 rfl (ri_1 H) (ri_2 H)
  · rw [if_pos c1] at H
    refine j_aload_n (pc := 8) dX2_peek_8 rfl ?_
    refine j_getI (pc := 9) dX2_peek_9 flX2_25 (fk_at ha rfl) ?_
    refine j_if_lt (pc := 12) (tgt := 38) dX2_peek_12 (by decide) (fun c2 => ?_) (fun c2 => ?_)
    · rw [if_pos c2] at H
      refine j_iconst (pc := 38) (v := -1) dX2_peek_38 (by decide) ?_
      exact j_ireturn (pc := 39) dX2_peek_39 rfl (ri_1 H) (ri_2 H)
    · rw [if_neg c2] at H
      refine j_aload_n (pc := 15) dX2_peek_15 rfl ?_
      refine j_getI (pc := 16) dX2_peek_16 flX2_25 (fk_at ha rfl) ?_
      refine j_aload_n (pc := 19) dX2_peek_19 rfl ?_
      refine j_getI (pc := 20) dX2_peek_20 flX2_31 (fk_at ha rfl) ?_
      refine j_icmp_ge (pc := 23) (tgt := 38) dX2_peek_23 (by decide) (fun c3 => ?_) (fun c3 => ?_)
      · rw [if_pos c3] at H
        refine j_iconst (pc := 38) (v := -1) dX2_peek_38 (by decide) ?_
        exact j_ireturn (pc := 39) dX2_peek_39 rfl (ri_1 H) (ri_2 H)
      · rw [if_neg c3] at H
        refine j_aload_n (pc := 26) dX2_peek_26 rfl ?_
        obtain ⟨q4, eq4, H⟩ := bR_x H
        refine j_getQ (pc := 27) dX2_peek_27 flX2_9 (fk_at ha rfl) eq4 ?_
        refine j_aload_n (pc := 30) dX2_peek_30 rfl ?_
        refine j_getI (pc := 31) dX2_peek_31 flX2_25 (fk_at ha rfl) ?_
        obtain ⟨n5, en5, H⟩ := bA_x H
        obtain ⟨b6, H⟩ := ck_x H
        refine j_iaload (pc := 34) dX2_peek_34 en5 b6 rfl ?_
        refine j_goto (pc := 35) (tgt := 39) dX2_peek_35 (by decide) ?_
        exact j_ireturn (pc := 39) dX2_peek_39 rfl (ri_1 H) (ri_2 H)

noncomputable def fX2_fail (a : Nat) (p1 : Int32) (h : HS) : Option HS := if (gI h a 3) = (-1 : Int32) then (nm (pI h a 3 p1) (fun h2 => some h2)) else (some h)
set_option maxRecDepth 100000 in
theorem tX2_fail {a : Nat} {p1 : Int32} {h h0 : HS} (ha : skC[a]? = some (0, 2, [2, 0, 0, 0])) (H : fX2_fail a p1 h = some h0) : Cn skC yX2_fail cX2_fail 2 none 0 [.ref a, .int p1] h none h0 := by
  refine Cn_of (L := [some (.ref a), some (.int p1)]) (by decide +kernel) (by simp [lg_sl, Value.category]) (fun ad => by simp [lg_sl, tv, Value.category]) (⟨rfl, ⟨rfl, trivial⟩⟩) ?_
  unfold fX2_fail at H
  refine j_aload_n (pc := 0) dX2_fail_0 rfl ?_
  refine j_getI (pc := 1) dX2_fail_1 flX2_15 (fk_at ha rfl) ?_
  refine j_iconst (pc := 4) (v := -1) dX2_fail_4 (by decide) ?_
  refine j_icmp_ne (pc := 5) (tgt := 13) dX2_fail_5 (by decide) (fun c1 => ?_) (fun c1 => ?_)
  · rw [if_neg c1] at H
    exact j_return (pc := 13) dX2_fail_13 rfl rfl (rv_2 H)
  · rw [if_pos c1] at H
    refine j_aload_n (pc := 8) dX2_fail_8 rfl ?_
    refine j_iload_n (pc := 9) dX2_fail_9 rfl ?_
    obtain ⟨h2, eh2, H⟩ := nm_x H
    refine j_putI (pc := 10) dX2_fail_10 fpX2_15 (fk_at ha rfl) h2 eh2 ?_
    exact j_return (pc := 13) dX2_fail_13 rfl rfl (rv_2 H)

noncomputable def fX2_loadBelow_71 (a : Nat) (v1 : Int32) (v2 : Int32) (h : HS) : Option (Int32 × HS) := if v2 < v1 then (some (v2, h)) else (bv (fX2_fail a (((gI h a 2) - (1 : Int32))) h) (fun h21 => some (v2, h21)))
set_option maxRecDepth 100000 in
theorem jX2_loadBelow_71 {a : Nat} {r : Int32} {h0 : HS} (ha : skC[a]? = some (0, 2, [2, 0, 0, 0])) (v1 : Int32) (v2 : Int32) (h : HS) (H : fX2_loadBelow_71 a v1 v2 h = some (r, h0)) : Jx skC RX2 cX2_loadBelow 3 (some .int) 1 (some (.int r)) h0 71 [some (.ref a), some (.int v1), some (.int v2)] [] h := by
  unfold fX2_loadBelow_71 at H
  refine j_iload_n (pc := 71) dX2_loadBelow_71 rfl ?_
  refine j_iload_n (pc := 72) dX2_loadBelow_72 rfl ?_
  refine j_icmp_lt (pc := 73) (tgt := 86) dX2_loadBelow_73 (by decide) (fun c20 => ?_) (fun c20 => ?_)
  · rw [if_pos c20] at H
    refine j_iload_n (pc := 86) dX2_loadBelow_86 rfl ?_
    exact j_ireturn (pc := 87) dX2_loadBelow_87 rfl (ri_1 H) (ri_2 H)
  · rw [if_neg c20] at H
    refine j_aload_n (pc := 76) dX2_loadBelow_76 rfl ?_
    refine j_aload_n (pc := 77) dX2_loadBelow_77 rfl ?_
    refine j_getI (pc := 78) dX2_loadBelow_78 flX2_25 (fk_at ha rfl) ?_
    refine j_iconst (pc := 81) (v := 1) dX2_loadBelow_81 (by decide) ?_
    refine j_isub (pc := 82) dX2_loadBelow_82 ?_
    obtain ⟨h21, eh21, H⟩ := bv_x H
    refine j_callV (pc := 83) dX2_loadBelow_83 mlX2_38 wyX2_fail (tX2_fail ha eh21) (by decide) ha rfl rfl rfl (by simp [Value.category]) rfl ?_
    refine j_iload_n (pc := 86) dX2_loadBelow_86 rfl ?_
    exact j_ireturn (pc := 87) dX2_loadBelow_87 rfl (ri_1 H) (ri_2 H)
noncomputable def fX2_loadBelow (a : Nat) (p1 : Int32) (h : HS) : Option (Int32 × HS) := bd (fX2_peek a h) (fun r2 h1 => bd (fX11_isDigit r2 h1) (fun r4 h3 => if r4 = 0 then (bv (fX2_fail a ((gI h3 a 2)) h3) (fun h19 => some ((0 : Int32), h19))) else (bd (fX2_peek a h3) (fun r7 h6 => nm ((r7 - (48 : Int32))) (fun v2_8 => nm (pI h6 a 2 ((gI h6 a 2) + (1 : Int32))) (fun h9 => bd (fX2_peek a h9) (fun r11 h10 => bd (fX11_isDigit r11 h10) (fun r13 h12 => if r13 = 0 then (fX2_loadBelow_71 a p1 v2_8 h12) else (bd (fX2_peek a h12) (fun r16 h15 => nm ((((v2_8 * (10 : Int32)) + r16) - (48 : Int32))) (fun v2_17 => nm (pI h15 a 2 ((gI h15 a 2) + (1 : Int32))) (fun h18 => fX2_loadBelow_71 a p1 v2_17 h18))))))))))))
set_option maxRecDepth 100000 in
theorem tX2_loadBelow {a : Nat} {p1 : Int32} {r : Int32} {h h0 : HS} (ha : skC[a]? = some (0, 2, [2, 0, 0, 0])) (H : fX2_loadBelow a p1 h = some (r, h0)) : Cn skC yX2_loadBelow cX2_loadBelow 3 (some .int) 1 [.ref a, .int p1] h (some (.int r)) h0 := by
  refine Cn_of (L := [some (.ref a), some (.int p1), none]) (by decide +kernel) (by simp [lg_sl, Value.category]) (fun ad => by simp [lg_sl, tv, Value.category]) (⟨rfl, ⟨rfl, trivial⟩⟩) ?_
  unfold fX2_loadBelow at H
  refine j_aload_n (pc := 0) dX2_loadBelow_0 rfl ?_
  obtain ⟨r2, h1, eh1, H⟩ := bd_x H
  refine j_callV (pc := 1) dX2_loadBelow_1 mlX2_34 wyX2_peek (tX2_peek ha eh1) (by decide) ha rfl rfl rfl (by simp [Value.category]) rfl ?_
  obtain ⟨r4, h3, eh3, H⟩ := bd_x H
  refine j_callSN (pc := 4) dX2_loadBelow_4 mlX2_42 wyX11_isDigit (tX11_isDigit eh3) (by decide) rfl (by simp [Value.category]) rfl ?_
  refine j_if_ne (pc := 7) (tgt := 20) dX2_loadBelow_7 (by decide) (fun c5 => ?_) (fun c5 => ?_)
  · rw [if_neg c5] at H
    refine j_aload_n (pc := 20) dX2_loadBelow_20 rfl ?_
    obtain ⟨r7, h6, eh6, H⟩ := bd_x H
    refine j_callV (pc := 21) dX2_loadBelow_21 mlX2_34 wyX2_peek (tX2_peek ha eh6) (by decide) ha rfl rfl rfl (by simp [Value.category]) rfl ?_
    refine j_bipush (pc := 24) (v := 48) dX2_loadBelow_24 (by decide) ?_
    refine j_isub (pc := 26) dX2_loadBelow_26 ?_
    obtain ⟨v2_8, ev2_8, H⟩ := nm_x H
    refine j_topi ev2_8 ?_
    refine j_istore_n (pc := 27) (L' := [some (.ref a), some (.int p1), some (.int v2_8)]) dX2_loadBelow_27 (by decide) rfl ?_
    refine j_aload_n (pc := 28) dX2_loadBelow_28 rfl ?_
    refine j_dup (pc := 29) dX2_loadBelow_29 rfl ?_
    refine j_getI (pc := 30) dX2_loadBelow_30 flX2_25 (fk_at ha rfl) ?_
    refine j_iconst (pc := 33) (v := 1) dX2_loadBelow_33 (by decide) ?_
    refine j_iadd (pc := 34) dX2_loadBelow_34 ?_
    obtain ⟨h9, eh9, H⟩ := nm_x H
    refine j_putI (pc := 35) dX2_loadBelow_35 fpX2_25 (fk_at ha rfl) h9 eh9 ?_
    refine j_aload_n (pc := 38) dX2_loadBelow_38 rfl ?_
    obtain ⟨r11, h10, eh10, H⟩ := bd_x H
    refine j_callV (pc := 39) dX2_loadBelow_39 mlX2_34 wyX2_peek (tX2_peek ha eh10) (by decide) ha rfl rfl rfl (by simp [Value.category]) rfl ?_
    obtain ⟨r13, h12, eh12, H⟩ := bd_x H
    refine j_callSN (pc := 42) dX2_loadBelow_42 mlX2_42 wyX11_isDigit (tX11_isDigit eh12) (by decide) rfl (by simp [Value.category]) rfl ?_
    refine j_if_eq (pc := 45) (tgt := 71) dX2_loadBelow_45 (by decide) (fun c14 => ?_) (fun c14 => ?_)
    · rw [if_pos c14] at H
      refine Jx.sub (L' := [some (.ref a), some (.int p1), some (.int v2_8)]) (⟨rfl, ⟨rfl, ⟨rfl, trivial⟩⟩⟩) ?_
      exact jX2_loadBelow_71 ha p1 v2_8 h12 H
    · rw [if_neg c14] at H
      refine j_iload_n (pc := 48) dX2_loadBelow_48 rfl ?_
      refine j_bipush (pc := 49) (v := 10) dX2_loadBelow_49 (by decide) ?_
      refine j_imul (pc := 51) dX2_loadBelow_51 ?_
      refine j_aload_n (pc := 52) dX2_loadBelow_52 rfl ?_
      obtain ⟨r16, h15, eh15, H⟩ := bd_x H
      refine j_callV (pc := 53) dX2_loadBelow_53 mlX2_34 wyX2_peek (tX2_peek ha eh15) (by decide) ha rfl rfl rfl (by simp [Value.category]) rfl ?_
      refine j_iadd (pc := 56) dX2_loadBelow_56 ?_
      refine j_bipush (pc := 57) (v := 48) dX2_loadBelow_57 (by decide) ?_
      refine j_isub (pc := 59) dX2_loadBelow_59 ?_
      obtain ⟨v2_17, ev2_17, H⟩ := nm_x H
      refine j_topi ev2_17 ?_
      refine j_istore_n (pc := 60) (L' := [some (.ref a), some (.int p1), some (.int v2_17)]) dX2_loadBelow_60 (by decide) rfl ?_
      refine j_aload_n (pc := 61) dX2_loadBelow_61 rfl ?_
      refine j_dup (pc := 62) dX2_loadBelow_62 rfl ?_
      refine j_getI (pc := 63) dX2_loadBelow_63 flX2_25 (fk_at ha rfl) ?_
      refine j_iconst (pc := 66) (v := 1) dX2_loadBelow_66 (by decide) ?_
      refine j_iadd (pc := 67) dX2_loadBelow_67 ?_
      obtain ⟨h18, eh18, H⟩ := nm_x H
      refine j_putI (pc := 68) dX2_loadBelow_68 fpX2_25 (fk_at ha rfl) h18 eh18 ?_
      refine Jx.sub (L' := [some (.ref a), some (.int p1), some (.int v2_17)]) (⟨rfl, ⟨rfl, ⟨rfl, trivial⟩⟩⟩) ?_
      exact jX2_loadBelow_71 ha p1 v2_17 h18 H
  · rw [if_pos c5] at H
    refine j_aload_n (pc := 10) dX2_loadBelow_10 rfl ?_
    refine j_aload_n (pc := 11) dX2_loadBelow_11 rfl ?_
    refine j_getI (pc := 12) dX2_loadBelow_12 flX2_25 (fk_at ha rfl) ?_
    obtain ⟨h19, eh19, H⟩ := bv_x H
    refine j_callV (pc := 15) dX2_loadBelow_15 mlX2_38 wyX2_fail (tX2_fail ha eh19) (by decide) ha rfl rfl rfl (by simp [Value.category]) rfl ?_
    refine j_iconst (pc := 18) (v := 0) dX2_loadBelow_18 (by decide) ?_
    exact j_ireturn (pc := 19) dX2_loadBelow_19 rfl (ri_1 H) (ri_2 H)

noncomputable def fX2_expect (a : Nat) (p1 : Int32) (h : HS) : Option HS := bd (fX2_peek a h) (fun r2 h1 => if r2 = p1 then (nm (pI h1 a 2 ((gI h1 a 2) + (1 : Int32))) (fun h5 => some h5)) else (bv (fX2_fail a ((gI h1 a 2)) h1) (fun h4 => some h4)))
set_option maxRecDepth 100000 in
theorem tX2_expect {a : Nat} {p1 : Int32} {h h0 : HS} (ha : skC[a]? = some (0, 2, [2, 0, 0, 0])) (H : fX2_expect a p1 h = some h0) : Cn skC yX2_expect cX2_expect 2 none 1 [.ref a, .int p1] h none h0 := by
  refine Cn_of (L := [some (.ref a), some (.int p1)]) (by decide +kernel) (by simp [lg_sl, Value.category]) (fun ad => by simp [lg_sl, tv, Value.category]) (⟨rfl, ⟨rfl, trivial⟩⟩) ?_
  unfold fX2_expect at H
  refine j_aload_n (pc := 0) dX2_expect_0 rfl ?_
  obtain ⟨r2, h1, eh1, H⟩ := bd_x H
  refine j_callV (pc := 1) dX2_expect_1 mlX2_34 wyX2_peek (tX2_peek ha eh1) (by decide) ha rfl rfl rfl (by simp [Value.category]) rfl ?_
  refine j_iload_n (pc := 4) dX2_expect_4 rfl ?_
  refine j_icmp_ne (pc := 5) (tgt := 21) dX2_expect_5 (by decide) (fun c3 => ?_) (fun c3 => ?_)
  · rw [if_neg c3] at H
    refine j_aload_n (pc := 21) dX2_expect_21 rfl ?_
    refine j_aload_n (pc := 22) dX2_expect_22 rfl ?_
    refine j_getI (pc := 23) dX2_expect_23 flX2_25 (fk_at ha rfl) ?_
    obtain ⟨h4, eh4, H⟩ := bv_x H
    refine j_callV (pc := 26) dX2_expect_26 mlX2_38 wyX2_fail (tX2_fail ha eh4) (by decide) ha rfl rfl rfl (by simp [Value.category]) rfl ?_
    exact j_return (pc := 29) dX2_expect_29 rfl rfl (rv_2 H)
  · rw [if_pos c3] at H
    refine j_aload_n (pc := 8) dX2_expect_8 rfl ?_
    refine j_dup (pc := 9) dX2_expect_9 rfl ?_
    refine j_getI (pc := 10) dX2_expect_10 flX2_25 (fk_at ha rfl) ?_
    refine j_iconst (pc := 13) (v := 1) dX2_expect_13 (by decide) ?_
    refine j_iadd (pc := 14) dX2_expect_14 ?_
    obtain ⟨h5, eh5, H⟩ := nm_x H
    refine j_putI (pc := 15) dX2_expect_15 fpX2_25 (fk_at ha rfl) h5 eh5 ?_
    refine j_goto (pc := 18) (tgt := 29) dX2_expect_18 (by decide) ?_
    exact j_return (pc := 29) dX2_expect_29 rfl rfl (rv_2 H)

noncomputable def fX2_take_13 (a : Nat) (s0 : Int32) (h : HS) : Option (Int32 × HS) := if s0 = 0 then (nm (pI h a 2 ((gI h a 2) + (0 : Int32))) (fun h5 => some (vp_nar .boolean s0, h5))) else (nm (pI h a 2 ((gI h a 2) + (1 : Int32))) (fun h6 => some (vp_nar .boolean s0, h6)))
set_option maxRecDepth 100000 in
theorem jX2_take_13 {a : Nat} {r : Int32} {h0 : HS} (ha : skC[a]? = some (0, 2, [2, 0, 0, 0])) (s0 : Int32) (h : HS) (H : fX2_take_13 a s0 h = some (r, h0)) : Jx skC RX2 cX2_take 3 (some .boolean) 1 (some (.int r)) h0 13 [some (.ref a), none, none] [.int s0] h := by
  unfold fX2_take_13 at H
  refine j_istore_n (pc := 13) (L' := [some (.ref a), none, some (.int s0)]) dX2_take_13 (by decide) rfl ?_
  refine j_aload_n (pc := 14) dX2_take_14 rfl ?_
  refine j_dup (pc := 15) dX2_take_15 rfl ?_
  refine j_getI (pc := 16) dX2_take_16 flX2_25 (fk_at ha rfl) ?_
  refine j_iload_n (pc := 19) dX2_take_19 rfl ?_
  refine j_if_eq (pc := 20) (tgt := 27) dX2_take_20 (by decide) (fun c4 => ?_) (fun c4 => ?_)
  · rw [if_pos c4] at H
    refine j_iconst (pc := 27) (v := 0) dX2_take_27 (by decide) ?_
    refine j_iadd (pc := 28) dX2_take_28 ?_
    obtain ⟨h5, eh5, H⟩ := nm_x H
    refine j_putI (pc := 29) dX2_take_29 fpX2_25 (fk_at ha rfl) h5 eh5 ?_
    refine j_iload_n (pc := 32) dX2_take_32 rfl ?_
    exact j_zreturn (pc := 33) dX2_take_33 rfl (ri_1 H) (ri_2 H)
  · rw [if_neg c4] at H
    refine j_iconst (pc := 23) (v := 1) dX2_take_23 (by decide) ?_
    refine j_goto (pc := 24) (tgt := 28) dX2_take_24 (by decide) ?_
    refine j_iadd (pc := 28) dX2_take_28 ?_
    obtain ⟨h6, eh6, H⟩ := nm_x H
    refine j_putI (pc := 29) dX2_take_29 fpX2_25 (fk_at ha rfl) h6 eh6 ?_
    refine j_iload_n (pc := 32) dX2_take_32 rfl ?_
    exact j_zreturn (pc := 33) dX2_take_33 rfl (ri_1 H) (ri_2 H)
noncomputable def fX2_take (a : Nat) (p1 : Int32) (h : HS) : Option (Int32 × HS) := bd (fX2_peek a h) (fun r2 h1 => if r2 = p1 then (fX2_take_13 a (1 : Int32) h1) else (fX2_take_13 a (0 : Int32) h1))
set_option maxRecDepth 100000 in
theorem tX2_take {a : Nat} {p1 : Int32} {r : Int32} {h h0 : HS} (ha : skC[a]? = some (0, 2, [2, 0, 0, 0])) (H : fX2_take a p1 h = some (r, h0)) : Cn skC yX2_take cX2_take 3 (some .boolean) 1 [.ref a, .int p1] h (some (.int r)) h0 := by
  refine Cn_of (L := [some (.ref a), some (.int p1), none]) (by decide +kernel) (by simp [lg_sl, Value.category]) (fun ad => by simp [lg_sl, tv, Value.category]) (⟨rfl, ⟨rfl, trivial⟩⟩) ?_
  unfold fX2_take at H
  refine j_aload_n (pc := 0) dX2_take_0 rfl ?_
  obtain ⟨r2, h1, eh1, H⟩ := bd_x H
  refine j_callV (pc := 1) dX2_take_1 mlX2_34 wyX2_peek (tX2_peek ha eh1) (by decide) ha rfl rfl rfl (by simp [Value.category]) rfl ?_
  refine j_iload_n (pc := 4) dX2_take_4 rfl ?_
  refine j_icmp_ne (pc := 5) (tgt := 12) dX2_take_5 (by decide) (fun c3 => ?_) (fun c3 => ?_)
  · rw [if_neg c3] at H
    refine j_iconst (pc := 12) (v := 0) dX2_take_12 (by decide) ?_
    refine Jx.sub (L' := [some (.ref a), none, none]) (⟨rfl, trivial⟩) ?_
    exact jX2_take_13 ha (0 : Int32) h1 H
  · rw [if_pos c3] at H
    refine j_iconst (pc := 8) (v := 1) dX2_take_8 (by decide) ?_
    refine j_goto (pc := 9) (tgt := 13) dX2_take_9 (by decide) ?_
    refine Jx.sub (L' := [some (.ref a), none, none]) (⟨rfl, trivial⟩) ?_
    exact jX2_take_13 ha (1 : Int32) h1 H

noncomputable def fX2_number_22 (a : Nat) : Nat → Int32 → Int32 → Int32 → HS → Option (Int32 × HS)
  | 0, _, _, _, _ => none
  | n + 1, v1, v2, v3, h => if v1 ≤ v3 then (some (v2, h)) else (bd (fX2_peek a h) (fun r9 h8 => bd (fX11_isDigit r9 h8) (fun r11 h10 => if r11 = 0 then (some (v2, h10)) else (bd (fX2_peek a h10) (fun r14 h13 => nm ((((v2 * (10 : Int32)) + r14) - (48 : Int32))) (fun v2_15 => nm (pI h13 a 2 ((gI h13 a 2) + (1 : Int32))) (fun h16 => nm (v3 + (1 : Int32)) (fun v3_17 => fX2_number_22 a n v1 v2_15 v3_17 h16))))))))
set_option maxRecDepth 100000 in
theorem jX2_number_22 {a : Nat} {r : Int32} {h0 : HS} (ha : skC[a]? = some (0, 2, [2, 0, 0, 0])) : ∀ (n : Nat) (v1 : Int32) (v2 : Int32) (v3 : Int32) (h : HS), fX2_number_22 a n v1 v2 v3 h = some (r, h0) → Jx skC RX2 cX2_number 4 (some .int) 1 (some (.int r)) h0 22 [some (.ref a), some (.int v1), some (.int v2), some (.int v3)] [] h := by
  intro n
  induction n with
  | zero => intro v1 v2 v3  h H; cases H
  | succ n ih =>
    intro v1 v2 v3  h H
    rw [fX2_number_22] at H
    refine j_iload_n (pc := 22) dX2_number_22 rfl ?_
    refine j_iload_n (pc := 23) dX2_number_23 rfl ?_
    refine j_icmp_ge (pc := 24) (tgt := 66) dX2_number_24 (by decide) (fun c7 => ?_) (fun c7 => ?_)
    · rw [if_pos c7] at H
      refine j_iload_n (pc := 66) dX2_number_66 rfl ?_
      exact j_ireturn (pc := 67) dX2_number_67 rfl (ri_1 H) (ri_2 H)
    · rw [if_neg c7] at H
      refine j_aload_n (pc := 27) dX2_number_27 rfl ?_
      obtain ⟨r9, h8, eh8, H⟩ := bd_x H
      refine j_callV (pc := 28) dX2_number_28 mlX2_34 wyX2_peek (tX2_peek ha eh8) (by decide) ha rfl rfl rfl (by simp [Value.category]) rfl ?_
      obtain ⟨r11, h10, eh10, H⟩ := bd_x H
      refine j_callSN (pc := 31) dX2_number_31 mlX2_42 wyX11_isDigit (tX11_isDigit eh10) (by decide) rfl (by simp [Value.category]) rfl ?_
      refine j_if_eq (pc := 34) (tgt := 66) dX2_number_34 (by decide) (fun c12 => ?_) (fun c12 => ?_)
      · rw [if_pos c12] at H
        refine j_iload_n (pc := 66) dX2_number_66 rfl ?_
        exact j_ireturn (pc := 67) dX2_number_67 rfl (ri_1 H) (ri_2 H)
      · rw [if_neg c12] at H
        refine j_iload_n (pc := 37) dX2_number_37 rfl ?_
        refine j_bipush (pc := 38) (v := 10) dX2_number_38 (by decide) ?_
        refine j_imul (pc := 40) dX2_number_40 ?_
        refine j_aload_n (pc := 41) dX2_number_41 rfl ?_
        obtain ⟨r14, h13, eh13, H⟩ := bd_x H
        refine j_callV (pc := 42) dX2_number_42 mlX2_34 wyX2_peek (tX2_peek ha eh13) (by decide) ha rfl rfl rfl (by simp [Value.category]) rfl ?_
        refine j_iadd (pc := 45) dX2_number_45 ?_
        refine j_bipush (pc := 46) (v := 48) dX2_number_46 (by decide) ?_
        refine j_isub (pc := 48) dX2_number_48 ?_
        obtain ⟨v2_15, ev2_15, H⟩ := nm_x H
        refine j_topi ev2_15 ?_
        refine j_istore_n (pc := 49) (L' := [some (.ref a), some (.int v1), some (.int v2_15), some (.int v3)]) dX2_number_49 (by decide) rfl ?_
        refine j_aload_n (pc := 50) dX2_number_50 rfl ?_
        refine j_dup (pc := 51) dX2_number_51 rfl ?_
        refine j_getI (pc := 52) dX2_number_52 flX2_25 (fk_at ha rfl) ?_
        refine j_iconst (pc := 55) (v := 1) dX2_number_55 (by decide) ?_
        refine j_iadd (pc := 56) dX2_number_56 ?_
        obtain ⟨h16, eh16, H⟩ := nm_x H
        refine j_putI (pc := 57) dX2_number_57 fpX2_25 (fk_at ha rfl) h16 eh16 ?_
        obtain ⟨v3_17, ev3_17, H⟩ := nm_x H
        refine j_iinc (pc := 60) (L' := [some (.ref a), some (.int v1), some (.int v2_15), some (.int v3_17)]) (w := 1) dX2_number_60 rfl (by decide) (by decide) v3_17 ev3_17 rfl ?_
        refine j_goto (pc := 63) (tgt := 22) dX2_number_63 (by decide) ?_
        refine Jx.sub (L' := [some (.ref a), some (.int v1), some (.int v2_15), some (.int v3_17)]) (⟨rfl, ⟨rfl, ⟨rfl, ⟨rfl, trivial⟩⟩⟩⟩) ?_
        exact ih v1 v2_15 v3_17 h16 H
noncomputable def fX2_number_18 (a : Nat) (v1 : Int32) (h : HS) : Option (Int32 × HS) := fX2_number_22 a FU v1 (0 : Int32) (0 : Int32) h
set_option maxRecDepth 100000 in
theorem jX2_number_18 {a : Nat} {r : Int32} {h0 : HS} (ha : skC[a]? = some (0, 2, [2, 0, 0, 0])) (v1 : Int32) (h : HS) (H : fX2_number_18 a v1 h = some (r, h0)) : Jx skC RX2 cX2_number 4 (some .int) 1 (some (.int r)) h0 18 [some (.ref a), some (.int v1), none, none] [] h := by
  unfold fX2_number_18 at H
  refine j_iconst (pc := 18) (v := 0) dX2_number_18 (by decide) ?_
  refine j_istore_n (pc := 19) (L' := [some (.ref a), some (.int v1), some (.int (0 : Int32)), none]) dX2_number_19 (by decide) rfl ?_
  refine j_iconst (pc := 20) (v := 0) dX2_number_20 (by decide) ?_
  refine j_istore_n (pc := 21) (L' := [some (.ref a), some (.int v1), some (.int (0 : Int32)), some (.int (0 : Int32))]) dX2_number_21 (by decide) rfl ?_
  refine Jx.sub (L' := [some (.ref a), some (.int v1), some (.int (0 : Int32)), some (.int (0 : Int32))]) (⟨rfl, ⟨rfl, ⟨rfl, ⟨rfl, trivial⟩⟩⟩⟩) ?_
  exact jX2_number_22 ha FU v1 (0 : Int32) (0 : Int32) h H
noncomputable def fX2_number (a : Nat) (p1 : Int32) (h : HS) : Option (Int32 × HS) := bd (fX2_peek a h) (fun r2 h1 => bd (fX11_isDigit r2 h1) (fun r4 h3 => if r4 = 0 then (bv (fX2_fail a ((gI h3 a 2)) h3) (fun h6 => fX2_number_18 a p1 h6)) else (fX2_number_18 a p1 h3)))
set_option maxRecDepth 100000 in
theorem tX2_number {a : Nat} {p1 : Int32} {r : Int32} {h h0 : HS} (ha : skC[a]? = some (0, 2, [2, 0, 0, 0])) (H : fX2_number a p1 h = some (r, h0)) : Cn skC yX2_number cX2_number 4 (some .int) 1 [.ref a, .int p1] h (some (.int r)) h0 := by
  refine Cn_of (L := [some (.ref a), some (.int p1), none, none]) (by decide +kernel) (by simp [lg_sl, Value.category]) (fun ad => by simp [lg_sl, tv, Value.category]) (⟨rfl, ⟨rfl, trivial⟩⟩) ?_
  unfold fX2_number at H
  refine j_aload_n (pc := 0) dX2_number_0 rfl ?_
  obtain ⟨r2, h1, eh1, H⟩ := bd_x H
  refine j_callV (pc := 1) dX2_number_1 mlX2_34 wyX2_peek (tX2_peek ha eh1) (by decide) ha rfl rfl rfl (by simp [Value.category]) rfl ?_
  obtain ⟨r4, h3, eh3, H⟩ := bd_x H
  refine j_callSN (pc := 4) dX2_number_4 mlX2_42 wyX11_isDigit (tX11_isDigit eh3) (by decide) rfl (by simp [Value.category]) rfl ?_
  refine j_if_ne (pc := 7) (tgt := 18) dX2_number_7 (by decide) (fun c5 => ?_) (fun c5 => ?_)
  · rw [if_neg c5] at H
    refine Jx.sub (L' := [some (.ref a), some (.int p1), none, none]) (⟨rfl, ⟨rfl, trivial⟩⟩) ?_
    exact jX2_number_18 ha p1 h3 H
  · rw [if_pos c5] at H
    refine j_aload_n (pc := 10) dX2_number_10 rfl ?_
    refine j_aload_n (pc := 11) dX2_number_11 rfl ?_
    refine j_getI (pc := 12) dX2_number_12 flX2_25 (fk_at ha rfl) ?_
    obtain ⟨h6, eh6, H⟩ := bv_x H
    refine j_callV (pc := 15) dX2_number_15 mlX2_38 wyX2_fail (tX2_fail ha eh6) (by decide) ha rfl rfl rfl (by simp [Value.category]) rfl ?_
    refine Jx.sub (L' := [some (.ref a), some (.int p1), none, none]) (⟨rfl, ⟨rfl, trivial⟩⟩) ?_
    exact jX2_number_18 ha p1 h6 H

noncomputable def fX2_finish_19 (a : Nat) (v1 : Int32) (h : HS) : Option (Int32 × HS) := if v1 ≤ (gI h a 1) then (some ((gI h a 3), h)) else (bv (fX2_fail a ((gI h a 1)) h) (fun h4 => some ((gI h4 a 3), h4)))
set_option maxRecDepth 100000 in
theorem jX2_finish_19 {a : Nat} {r : Int32} {h0 : HS} (ha : skC[a]? = some (0, 2, [2, 0, 0, 0])) (v1 : Int32) (h : HS) (H : fX2_finish_19 a v1 h = some (r, h0)) : Jx skC RX2 cX2_finish 2 (some .int) 1 (some (.int r)) h0 19 [some (.ref a), some (.int v1)] [] h := by
  unfold fX2_finish_19 at H
  refine j_iload_n (pc := 19) dX2_finish_19 rfl ?_
  refine j_aload_n (pc := 20) dX2_finish_20 rfl ?_
  refine j_getI (pc := 21) dX2_finish_21 flX2_31 (fk_at ha rfl) ?_
  refine j_icmp_le (pc := 24) (tgt := 35) dX2_finish_24 (by decide) (fun c3 => ?_) (fun c3 => ?_)
  · rw [if_pos c3] at H
    refine j_aload_n (pc := 35) dX2_finish_35 rfl ?_
    refine j_getI (pc := 36) dX2_finish_36 flX2_15 (fk_at ha rfl) ?_
    exact j_ireturn (pc := 39) dX2_finish_39 rfl (ri_1 H) (ri_2 H)
  · rw [if_neg c3] at H
    refine j_aload_n (pc := 27) dX2_finish_27 rfl ?_
    refine j_aload_n (pc := 28) dX2_finish_28 rfl ?_
    refine j_getI (pc := 29) dX2_finish_29 flX2_31 (fk_at ha rfl) ?_
    obtain ⟨h4, eh4, H⟩ := bv_x H
    refine j_callV (pc := 32) dX2_finish_32 mlX2_38 wyX2_fail (tX2_fail ha eh4) (by decide) ha rfl rfl rfl (by simp [Value.category]) rfl ?_
    refine j_aload_n (pc := 35) dX2_finish_35 rfl ?_
    refine j_getI (pc := 36) dX2_finish_36 flX2_15 (fk_at ha rfl) ?_
    exact j_ireturn (pc := 39) dX2_finish_39 rfl (ri_1 H) (ri_2 H)
noncomputable def fX2_finish (a : Nat) (p1 : Int32) (h : HS) : Option (Int32 × HS) := if (gI h a 1) ≤ (gI h a 2) then (fX2_finish_19 a p1 h) else (bv (fX2_fail a ((gI h a 2)) h) (fun h2 => fX2_finish_19 a p1 h2))
set_option maxRecDepth 100000 in
theorem tX2_finish {a : Nat} {p1 : Int32} {r : Int32} {h h0 : HS} (ha : skC[a]? = some (0, 2, [2, 0, 0, 0])) (H : fX2_finish a p1 h = some (r, h0)) : Cn skC yX2_finish cX2_finish 2 (some .int) 1 [.ref a, .int p1] h (some (.int r)) h0 := by
  refine Cn_of (L := [some (.ref a), some (.int p1)]) (by decide +kernel) (by simp [lg_sl, Value.category]) (fun ad => by simp [lg_sl, tv, Value.category]) (⟨rfl, ⟨rfl, trivial⟩⟩) ?_
  unfold fX2_finish at H
  refine j_aload_n (pc := 0) dX2_finish_0 rfl ?_
  refine j_getI (pc := 1) dX2_finish_1 flX2_25 (fk_at ha rfl) ?_
  refine j_aload_n (pc := 4) dX2_finish_4 rfl ?_
  refine j_getI (pc := 5) dX2_finish_5 flX2_31 (fk_at ha rfl) ?_
  refine j_icmp_ge (pc := 8) (tgt := 19) dX2_finish_8 (by decide) (fun c1 => ?_) (fun c1 => ?_)
  · rw [if_pos c1] at H
    refine Jx.sub (L' := [some (.ref a), some (.int p1)]) (⟨rfl, ⟨rfl, trivial⟩⟩) ?_
    exact jX2_finish_19 ha p1 h H
  · rw [if_neg c1] at H
    refine j_aload_n (pc := 11) dX2_finish_11 rfl ?_
    refine j_aload_n (pc := 12) dX2_finish_12 rfl ?_
    refine j_getI (pc := 13) dX2_finish_13 flX2_25 (fk_at ha rfl) ?_
    obtain ⟨h2, eh2, H⟩ := bv_x H
    refine j_callV (pc := 16) dX2_finish_16 mlX2_38 wyX2_fail (tX2_fail ha eh2) (by decide) ha rfl rfl rfl (by simp [Value.category]) rfl ?_
    refine Jx.sub (L' := [some (.ref a), some (.int p1)]) (⟨rfl, ⟨rfl, trivial⟩⟩) ?_
    exact jX2_finish_19 ha p1 h2 H
