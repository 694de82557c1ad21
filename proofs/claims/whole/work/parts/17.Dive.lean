theorem dX3_pushOf_0 : decode cX3_pushOf 0 = .ok (.iload_n 0, 1) := by decide +kernel
theorem dX3_pushOf_1 : decode cX3_pushOf 1 = .ok (.sipush 2000, 3) := by decide +kernel
theorem dX3_pushOf_4 : decode cX3_pushOf 4 = .ok (.idiv, 1) := by decide +kernel
theorem dX3_pushOf_5 : decode cX3_pushOf 5 = .ok (.ireturn, 1) := by decide +kernel
theorem dX3_begin_0 : decode cX3_begin 0 = .ok (.aload_n 0, 1) := by decide +kernel
theorem dX3_begin_1 : decode cX3_begin 1 = .ok (.aload_n 0, 1) := by decide +kernel
theorem dX3_begin_2 : decode cX3_begin 2 = .ok (.getfield 9, 3) := by decide +kernel
theorem dX3_begin_5 : decode cX3_begin 5 = .ok (.invokevirtual 15, 3) := by decide +kernel
theorem dX3_begin_8 : decode cX3_begin 8 = .ok (.putfield 21, 3) := by decide +kernel
theorem dX3_begin_11 : decode cX3_begin 11 = .ok (.aload_n 0, 1) := by decide +kernel
theorem dX3_begin_12 : decode cX3_begin 12 = .ok (.iload_n 2, 1) := by decide +kernel
theorem dX3_begin_13 : decode cX3_begin 13 = .ok (.putfield 25, 3) := by decide +kernel
theorem dX3_begin_16 : decode cX3_begin 16 = .ok (.aload_n 0, 1) := by decide +kernel
theorem dX3_begin_17 : decode cX3_begin 17 = .ok (.iload_n 1, 1) := by decide +kernel
theorem dX3_begin_18 : decode cX3_begin 18 = .ok (.bipush 10, 2) := by decide +kernel
theorem dX3_begin_20 : decode cX3_begin 20 = .ok (.imul, 1) := by decide +kernel
theorem dX3_begin_21 : decode cX3_begin 21 = .ok (.putfield 28, 3) := by decide +kernel
theorem dX3_begin_24 : decode cX3_begin 24 = .ok (.aload_n 0, 1) := by decide +kernel
theorem dX3_begin_25 : decode cX3_begin 25 = .ok (.iconst 0, 1) := by decide +kernel
theorem dX3_begin_26 : decode cX3_begin 26 = .ok (.putfield 31, 3) := by decide +kernel
theorem dX3_begin_29 : decode cX3_begin 29 = .ok (.return_, 1) := by decide +kernel
theorem dX3_goSecond_0 : decode cX3_goSecond 0 = .ok (.aload_n 0, 1) := by decide +kernel
theorem dX3_goSecond_1 : decode cX3_goSecond 1 = .ok (.getfield 21, 3) := by decide +kernel
theorem dX3_goSecond_4 : decode cX3_goSecond 4 = .ok (.aload_n 0, 1) := by decide +kernel
theorem dX3_goSecond_5 : decode cX3_goSecond 5 = .ok (.getfield 9, 3) := by decide +kernel
theorem dX3_goSecond_8 : decode cX3_goSecond 8 = .ok (.getfield 34, 3) := by decide +kernel
theorem dX3_goSecond_11 : decode cX3_goSecond 11 = .ok (.aload_n 0, 1) := by decide +kernel
theorem dX3_goSecond_12 : decode cX3_goSecond 12 = .ok (.getfield 28, 3) := by decide +kernel
theorem dX3_goSecond_15 : decode cX3_goSecond 15 = .ok (.bipush 10, 2) := by decide +kernel
theorem dX3_goSecond_17 : decode cX3_goSecond 17 = .ok (.idiv, 1) := by decide +kernel
theorem dX3_goSecond_18 : decode cX3_goSecond 18 = .ok (.invokevirtual 38, 3) := by decide +kernel
theorem dX3_goSecond_21 : decode cX3_goSecond 21 = .ok (.isub, 1) := by decide +kernel
theorem dX3_goSecond_22 : decode cX3_goSecond 22 = .ok (.istore_n 1, 1) := by decide +kernel
theorem dX3_goSecond_23 : decode cX3_goSecond 23 = .ok (.aload_n 0, 1) := by decide +kernel
theorem dX3_goSecond_24 : decode cX3_goSecond 24 = .ok (.aload_n 0, 1) := by decide +kernel
theorem dX3_goSecond_25 : decode cX3_goSecond 25 = .ok (.getfield 31, 3) := by decide +kernel
theorem dX3_goSecond_28 : decode cX3_goSecond 28 = .ok (.iload_n 1, 1) := by decide +kernel
theorem dX3_goSecond_29 : decode cX3_goSecond 29 = .ok (.bipush 20, 2) := by decide +kernel
theorem dX3_goSecond_31 : decode cX3_goSecond 31 = .ok (.idiv, 1) := by decide +kernel
theorem dX3_goSecond_32 : decode cX3_goSecond 32 = .ok (.iadd, 1) := by decide +kernel
theorem dX3_goSecond_33 : decode cX3_goSecond 33 = .ok (.aload_n 0, 1) := by decide +kernel
theorem dX3_goSecond_34 : decode cX3_goSecond 34 = .ok (.getfield 25, 3) := by decide +kernel
theorem dX3_goSecond_37 : decode cX3_goSecond 37 = .ok (.iadd, 1) := by decide +kernel
theorem dX3_goSecond_38 : decode cX3_goSecond 38 = .ok (.bipush (-30), 2) := by decide +kernel
theorem dX3_goSecond_40 : decode cX3_goSecond 40 = .ok (.bipush 30, 2) := by decide +kernel
theorem dX3_goSecond_42 : decode cX3_goSecond 42 = .ok (.invokestatic 44, 3) := by decide +kernel
theorem dX3_goSecond_45 : decode cX3_goSecond 45 = .ok (.putfield 31, 3) := by decide +kernel
theorem dX3_goSecond_48 : decode cX3_goSecond 48 = .ok (.aload_n 0, 1) := by decide +kernel
theorem dX3_goSecond_49 : decode cX3_goSecond 49 = .ok (.dup, 1) := by decide +kernel
theorem dX3_goSecond_50 : decode cX3_goSecond 50 = .ok (.getfield 28, 3) := by decide +kernel
theorem dX3_goSecond_53 : decode cX3_goSecond 53 = .ok (.aload_n 0, 1) := by decide +kernel
theorem dX3_goSecond_54 : decode cX3_goSecond 54 = .ok (.getfield 31, 3) := by decide +kernel
theorem dX3_goSecond_57 : decode cX3_goSecond 57 = .ok (.iadd, 1) := by decide +kernel
theorem dX3_goSecond_58 : decode cX3_goSecond 58 = .ok (.putfield 28, 3) := by decide +kernel
theorem dX3_goSecond_61 : decode cX3_goSecond 61 = .ok (.aload_n 0, 1) := by decide +kernel
theorem dX3_goSecond_62 : decode cX3_goSecond 62 = .ok (.getfield 28, 3) := by decide +kernel
theorem dX3_goSecond_65 : decode cX3_goSecond 65 = .ok (.iconst 0, 1) := by decide +kernel
theorem dX3_goSecond_66 : decode cX3_goSecond 66 = .ok (.sipush 6000, 3) := by decide +kernel
theorem dX3_goSecond_69 : decode cX3_goSecond 69 = .ok (.invokestatic 48, 3) := by decide +kernel
theorem dX3_goSecond_72 : decode cX3_goSecond 72 = .ok (.ifCond .ne 23, 3) := by decide +kernel
theorem dX3_goSecond_75 : decode cX3_goSecond 75 = .ok (.aload_n 0, 1) := by decide +kernel
theorem dX3_goSecond_76 : decode cX3_goSecond 76 = .ok (.aload_n 0, 1) := by decide +kernel
theorem dX3_goSecond_77 : decode cX3_goSecond 77 = .ok (.getfield 28, 3) := by decide +kernel
theorem dX3_goSecond_80 : decode cX3_goSecond 80 = .ok (.iconst 0, 1) := by decide +kernel
theorem dX3_goSecond_81 : decode cX3_goSecond 81 = .ok (.sipush 6000, 3) := by decide +kernel
theorem dX3_goSecond_84 : decode cX3_goSecond 84 = .ok (.invokestatic 44, 3) := by decide +kernel
theorem dX3_goSecond_87 : decode cX3_goSecond 87 = .ok (.putfield 28, 3) := by decide +kernel
theorem dX3_goSecond_90 : decode cX3_goSecond 90 = .ok (.aload_n 0, 1) := by decide +kernel
theorem dX3_goSecond_91 : decode cX3_goSecond 91 = .ok (.iconst 0, 1) := by decide +kernel
theorem dX3_goSecond_92 : decode cX3_goSecond 92 = .ok (.putfield 31, 3) := by decide +kernel
theorem dX3_goSecond_95 : decode cX3_goSecond 95 = .ok (.return_, 1) := by decide +kernel
theorem dX3_arrives_0 : decode cX3_arrives 0 = .ok (.iconst 0, 1) := by decide +kernel
theorem dX3_arrives_1 : decode cX3_arrives 1 = .ok (.istore_n 3, 1) := by decide +kernel
theorem dX3_arrives_2 : decode cX3_arrives 2 = .ok (.aload_n 0, 1) := by decide +kernel
theorem dX3_arrives_3 : decode cX3_arrives 3 = .ok (.getfield 28, 3) := by decide +kernel
theorem dX3_arrives_6 : decode cX3_arrives 6 = .ok (.iload_n 1, 1) := by decide +kernel
theorem dX3_arrives_7 : decode cX3_arrives 7 = .ok (.bipush 10, 2) := by decide +kernel
theorem dX3_arrives_9 : decode cX3_arrives 9 = .ok (.imul, 1) := by decide +kernel
theorem dX3_arrives_10 : decode cX3_arrives 10 = .ok (.if_icmp .ge 18, 3) := by decide +kernel
theorem dX3_arrives_13 : decode cX3_arrives 13 = .ok (.iload_n 3, 1) := by decide +kernel
theorem dX3_arrives_14 : decode cX3_arrives 14 = .ok (.iload_n 2, 1) := by decide +kernel
theorem dX3_arrives_15 : decode cX3_arrives 15 = .ok (.if_icmp .ge 13, 3) := by decide +kernel
theorem dX3_arrives_18 : decode cX3_arrives 18 = .ok (.aload_n 0, 1) := by decide +kernel
theorem dX3_arrives_19 : decode cX3_arrives 19 = .ok (.invokevirtual 52, 3) := by decide +kernel
theorem dX3_arrives_22 : decode cX3_arrives 22 = .ok (.iinc 3 1, 3) := by decide +kernel
theorem dX3_arrives_25 : decode cX3_arrives 25 = .ok (.goto (-23), 3) := by decide +kernel
theorem dX3_arrives_28 : decode cX3_arrives 28 = .ok (.aload_n 0, 1) := by decide +kernel
theorem dX3_arrives_29 : decode cX3_arrives 29 = .ok (.getfield 28, 3) := by decide +kernel
theorem dX3_arrives_32 : decode cX3_arrives 32 = .ok (.iload_n 1, 1) := by decide +kernel
theorem dX3_arrives_33 : decode cX3_arrives 33 = .ok (.bipush 10, 2) := by decide +kernel
theorem dX3_arrives_35 : decode cX3_arrives 35 = .ok (.imul, 1) := by decide +kernel
theorem dX3_arrives_36 : decode cX3_arrives 36 = .ok (.if_icmp .lt 7, 3) := by decide +kernel
theorem dX3_arrives_39 : decode cX3_arrives 39 = .ok (.iload_n 3, 1) := by decide +kernel
theorem dX3_arrives_40 : decode cX3_arrives 40 = .ok (.goto 4, 3) := by decide +kernel
theorem dX3_arrives_43 : decode cX3_arrives 43 = .ok (.iconst (-1), 1) := by decide +kernel
theorem dX3_arrives_44 : decode cX3_arrives 44 = .ok (.ireturn, 1) := by decide +kernel
noncomputable def fX3_pushOf (p1 : Int32) (h : HS) : Option (Int32 × HS) := some ((p1 / (2000 : Int32)), h)
set_option maxRecDepth 100000 in
theorem tX3_pushOf {p1 : Int32} {r : Int32} {h h0 : HS} (H : fX3_pushOf p1 h = some (r, h0)) : Cn skC yX3_pushOf cX3_pushOf 1 (some .int) 0 [.int p1] h (some (.int r)) h0 := by
  refine Cn_of (L := [some (.int p1)]) (by decide +kernel) (by simp [lg_sl, Value.category]) (fun ad => by simp [lg_sl, tv, Value.category]) (⟨rfl, trivial⟩) ?_
  unfold fX3_pushOf at H
  refine j_iload_n (pc := 0) dX3_pushOf_0 rfl ?_
  refine j_sipush (pc := 1) (v := 2000) dX3_pushOf_1 (by decide) ?_
  refine j_idiv (pc := 4) dX3_pushOf_4 (by decide) ?_
  exact j_ireturn (pc := 5) dX3_pushOf_5 rfl (ri_1 H) (ri_2 H)

noncomputable def fX3_begin (p1 : Int32) (p2 : Int32) (h : HS) : Option HS := bd (fX0_weightNow h) (fun r2 h1 => nm (pI h1 7 1 r2) (fun h3 => nm (pI h3 7 2 p2) (fun h4 => nm (pI h4 7 3 (p1 * (10 : Int32))) (fun h5 => nm (pI h5 7 4 (0 : Int32)) (fun h6 => some h6)))))
set_option maxRecDepth 100000 in
theorem tX3_begin {p1 : Int32} {p2 : Int32} {h h0 : HS} (H : fX3_begin p1 p2 h = some h0) : Cn skC yX3_begin cX3_begin 3 none 2 [.ref 7, .int p1, .int p2] h none h0 := by
  refine Cn_of (L := [some (.ref 7), some (.int p1), some (.int p2)]) (by decide +kernel) (by simp [lg_sl, Value.category]) (fun ad => by simp [lg_sl, tv, Value.category]) (⟨rfl, ⟨rfl, ⟨rfl, trivial⟩⟩⟩) ?_
  unfold fX3_begin at H
  refine j_aload_n (pc := 0) dX3_begin_0 rfl ?_
  refine j_aload_n (pc := 1) dX3_begin_1 rfl ?_
  refine j_getR (pc := 2) (b := 1) dX3_begin_2 flX3_9 rfl ?_
  obtain ⟨r2, h1, eh1, H⟩ := bd_x H
  refine j_callV (pc := 5) dX3_begin_5 mlX3_15 wyX0_weightNow (tX0_weightNow eh1) (by decide) rfl rfl rfl rfl (by simp [Value.category]) rfl ?_
  obtain ⟨h3, eh3, H⟩ := nm_x H
  refine j_putI (pc := 8) dX3_begin_8 fpX3_21 rfl h3 eh3 ?_
  refine j_aload_n (pc := 11) dX3_begin_11 rfl ?_
  refine j_iload_n (pc := 12) dX3_begin_12 rfl ?_
  obtain ⟨h4, eh4, H⟩ := nm_x H
  refine j_putI (pc := 13) dX3_begin_13 fpX3_25 rfl h4 eh4 ?_
  refine j_aload_n (pc := 16) dX3_begin_16 rfl ?_
  refine j_iload_n (pc := 17) dX3_begin_17 rfl ?_
  refine j_bipush (pc := 18) (v := 10) dX3_begin_18 (by decide) ?_
  refine j_imul (pc := 20) dX3_begin_20 ?_
  obtain ⟨h5, eh5, H⟩ := nm_x H
  refine j_putI (pc := 21) dX3_begin_21 fpX3_28 rfl h5 eh5 ?_
  refine j_aload_n (pc := 24) dX3_begin_24 rfl ?_
  refine j_iconst (pc := 25) (v := 0) dX3_begin_25 (by decide) ?_
  obtain ⟨h6, eh6, H⟩ := nm_x H
  refine j_putI (pc := 26) dX3_begin_26 fpX3_31 rfl h6 eh6 ?_
  exact j_return (pc := 29) dX3_begin_29 rfl rfl (rv_2 H)

noncomputable def fX3_goSecond (h : HS) : Option HS := bd (fX10_liftAt (((gI h 7 3) / (10 : Int32))) h) (fun r2 h1 => nm (((gI h 7 1) - r2)) (fun v1_3 => bd (fX11_clamp ((((gI h1 7 4) + (v1_3 / (20 : Int32))) + (gI h1 7 2))) (-30 : Int32) (30 : Int32) h1) (fun r5 h4 => nm (pI h4 7 4 r5) (fun h6 => nm (pI h6 7 3 ((gI h6 7 3) + (gI h6 7 4))) (fun h7 => bd (fX11_between ((gI h7 7 3)) (0 : Int32) (6000 : Int32) h7) (fun r9 h8 => if r9 = 0 then (bd (fX11_clamp ((gI h8 7 3)) (0 : Int32) (6000 : Int32) h8) (fun r12 h11 => nm (pI h11 7 3 r12) (fun h13 => nm (pI h13 7 4 (0 : Int32)) (fun h14 => some h14)))) else (some h8)))))))
set_option maxRecDepth 100000 in
theorem tX3_goSecond {h h0 : HS} (H : fX3_goSecond h = some h0) : Cn skC yX3_goSecond cX3_goSecond 2 none 2 [.ref 7] h none h0 := by
  refine Cn_of (L := [some (.ref 7), none]) (by decide +kernel) (by simp [lg_sl, Value.category]) (fun ad => by simp [lg_sl, tv, Value.category]) (⟨rfl, trivial⟩) ?_
  unfold fX3_goSecond at H
  refine j_aload_n (pc := 0) dX3_goSecond_0 rfl ?_
  refine j_getI (pc := 1) dX3_goSecond_1 flX3_21 rfl ?_
  refine j_aload_n (pc := 4) dX3_goSecond_4 rfl ?_
  refine j_getR (pc := 5) (b := 1) dX3_goSecond_5 flX3_9 rfl ?_
  refine j_getR (pc := 8) (b := 3) dX3_goSecond_8 flX3_34 rfl ?_
  refine j_aload_n (pc := 11) dX3_goSecond_11 rfl ?_
  refine j_getI (pc := 12) dX3_goSecond_12 flX3_28 rfl ?_
  refine j_bipush (pc := 15) (v := 10) dX3_goSecond_15 (by decide) ?_
  refine j_idiv (pc := 17) dX3_goSecond_17 (by decide) ?_
  obtain ⟨r2, h1, eh1, H⟩ := bd_x H
  refine j_callV (pc := 18) dX3_goSecond_18 mlX3_38 wyX10_liftAt (tX10_liftAt eh1) (by decide) rfl rfl rfl rfl (by simp [Value.category]) rfl ?_
  refine j_isub (pc := 21) dX3_goSecond_21 ?_
  obtain ⟨v1_3, ev1_3, H⟩ := nm_x H
  refine j_topi ev1_3 ?_
  refine j_istore_n (pc := 22) (L' := [some (.ref 7), some (.int v1_3)]) dX3_goSecond_22 (by decide) rfl ?_
  refine j_aload_n (pc := 23) dX3_goSecond_23 rfl ?_
  refine j_aload_n (pc := 24) dX3_goSecond_24 rfl ?_
  refine j_getI (pc := 25) dX3_goSecond_25 flX3_31 rfl ?_
  refine j_iload_n (pc := 28) dX3_goSecond_28 rfl ?_
  refine j_bipush (pc := 29) (v := 20) dX3_goSecond_29 (by decide) ?_
  refine j_idiv (pc := 31) dX3_goSecond_31 (by decide) ?_
  refine j_iadd (pc := 32) dX3_goSecond_32 ?_
  refine j_aload_n (pc := 33) dX3_goSecond_33 rfl ?_
  refine j_getI (pc := 34) dX3_goSecond_34 flX3_25 rfl ?_
  refine j_iadd (pc := 37) dX3_goSecond_37 ?_
  refine j_bipush (pc := 38) (v := -30) dX3_goSecond_38 (by decide) ?_
  refine j_bipush (pc := 40) (v := 30) dX3_goSecond_40 (by decide) ?_
  obtain ⟨r5, h4, eh4, H⟩ := bd_x H
  refine j_callSN (pc := 42) dX3_goSecond_42 mlX3_44 wyX11_clamp (tX11_clamp eh4) (by decide) rfl (by simp [Value.category]) rfl ?_
  obtain ⟨h6, eh6, H⟩ := nm_x H
  refine j_putI (pc := 45) dX3_goSecond_45 fpX3_31 rfl h6 eh6 ?_
  refine j_aload_n (pc := 48) dX3_goSecond_48 rfl ?_
  refine j_dup (pc := 49) dX3_goSecond_49 rfl ?_
  refine j_getI (pc := 50) dX3_goSecond_50 flX3_28 rfl ?_
  refine j_aload_n (pc := 53) dX3_goSecond_53 rfl ?_
  refine j_getI (pc := 54) dX3_goSecond_54 flX3_31 rfl ?_
  refine j_iadd (pc := 57) dX3_goSecond_57 ?_
  obtain ⟨h7, eh7, H⟩ := nm_x H
  refine j_putI (pc := 58) dX3_goSecond_58 fpX3_28 rfl h7 eh7 ?_
  refine j_aload_n (pc := 61) dX3_goSecond_61 rfl ?_
  refine j_getI (pc := 62) dX3_goSecond_62 flX3_28 rfl ?_
  refine j_iconst (pc := 65) (v := 0) dX3_goSecond_65 (by decide) ?_
  refine j_sipush (pc := 66) (v := 6000) dX3_goSecond_66 (by decide) ?_
  obtain ⟨r9, h8, eh8, H⟩ := bd_x H
  refine j_callSN (pc := 69) dX3_goSecond_69 mlX3_48 wyX11_between (tX11_between eh8) (by decide) rfl (by simp [Value.category]) rfl ?_
  refine j_if_ne (pc := 72) (tgt := 95) dX3_goSecond_72 (by decide) (fun c10 => ?_) (fun c10 => ?_)
  · rw [if_neg c10] at H
    exact j_return (pc := 95) dX3_goSecond_95 rfl rfl (rv_2 H)
  · rw [if_pos c10] at H
    refine j_aload_n (pc := 75) dX3_goSecond_75 rfl ?_
    refine j_aload_n (pc := 76) dX3_goSecond_76 rfl ?_
    refine j_getI (pc := 77) dX3_goSecond_77 flX3_28 rfl ?_
    refine j_iconst (pc := 80) (v := 0) dX3_goSecond_80 (by decide) ?_
    refine j_sipush (pc := 81) (v := 6000) dX3_goSecond_81 (by decide) ?_
    obtain ⟨r12, h11, eh11, H⟩ := bd_x H
    refine j_callSN (pc := 84) dX3_goSecond_84 mlX3_44 wyX11_clamp (tX11_clamp eh11) (by decide) rfl (by simp [Value.category]) rfl ?_
    obtain ⟨h13, eh13, H⟩ := nm_x H
    refine j_putI (pc := 87) dX3_goSecond_87 fpX3_28 rfl h13 eh13 ?_
    refine j_aload_n (pc := 90) dX3_goSecond_90 rfl ?_
    refine j_iconst (pc := 91) (v := 0) dX3_goSecond_91 (by decide) ?_
    obtain ⟨h14, eh14, H⟩ := nm_x H
    refine j_putI (pc := 92) dX3_goSecond_92 fpX3_31 rfl h14 eh14 ?_
    exact j_return (pc := 95) dX3_goSecond_95 rfl rfl (rv_2 H)

noncomputable def fX3_arrives_28 (v1 : Int32) (v3 : Int32) (h : HS) : Option (Int32 × HS) := if (gI h 7 3) < (v1 * (10 : Int32)) then (some ((-1 : Int32), h)) else (some (v3, h))
set_option maxRecDepth 100000 in
theorem jX3_arrives_28 {r : Int32} {h0 : HS} (v1 : Int32) (v3 : Int32) (h : HS) (H : fX3_arrives_28 v1 v3 h = some (r, h0)) : Jx skC RX3 cX3_arrives 4 (some .int) 3 (some (.int r)) h0 28 [some (.ref 7), some (.int v1), none, some (.int v3)] [] h := by
  unfold fX3_arrives_28 at H
  refine j_aload_n (pc := 28) dX3_arrives_28 rfl ?_
  refine j_getI (pc := 29) dX3_arrives_29 flX3_28 rfl ?_
  refine j_iload_n (pc := 32) dX3_arrives_32 rfl ?_
  refine j_bipush (pc := 33) (v := 10) dX3_arrives_33 (by decide) ?_
  refine j_imul (pc := 35) dX3_arrives_35 ?_
  refine j_icmp_lt (pc := 36) (tgt := 43) dX3_arrives_36 (by decide) (fun c5 => ?_) (fun c5 => ?_)
  · rw [if_pos c5] at H
    refine j_iconst (pc := 43) (v := -1) dX3_arrives_43 (by decide) ?_
    exact j_ireturn (pc := 44) dX3_arrives_44 rfl (ri_1 H) (ri_2 H)
  · rw [if_neg c5] at H
    refine j_iload_n (pc := 39) dX3_arrives_39 rfl ?_
    refine j_goto (pc := 40) (tgt := 44) dX3_arrives_40 (by decide) ?_
    exact j_ireturn (pc := 44) dX3_arrives_44 rfl (ri_1 H) (ri_2 H)
noncomputable def fX3_arrives_2 : Nat → Int32 → Int32 → Int32 → HS → Option (Int32 × HS)
  | 0, _, _, _, _ => none
  | n + 1, v1, v2, v3, h => if (v1 * (10 : Int32)) ≤ (gI h 7 3) then (fX3_arrives_28 v1 v3 h) else (if v2 ≤ v3 then (fX3_arrives_28 v1 v3 h) else (bv (fX3_goSecond h) (fun h3 => nm (v3 + (1 : Int32)) (fun v3_4 => fX3_arrives_2 n v1 v2 v3_4 h3))))
set_option maxRecDepth 100000 in
theorem jX3_arrives_2 {r : Int32} {h0 : HS} : ∀ (n : Nat) (v1 : Int32) (v2 : Int32) (v3 : Int32) (h : HS), fX3_arrives_2 n v1 v2 v3 h = some (r, h0) → Jx skC RX3 cX3_arrives 4 (some .int) 3 (some (.int r)) h0 2 [some (.ref 7), some (.int v1), some (.int v2), some (.int v3)] [] h := by
  intro n
  induction n with
  | zero => intro v1 v2 v3  h H; cases H
  | succ n ih =>
    intro v1 v2 v3  h H
    rw [fX3_arrives_2] at H
    refine j_aload_n (pc := 2) dX3_arrives_2 rfl ?_
    refine j_getI (pc := 3) dX3_arrives_3 flX3_28 rfl ?_
    refine j_iload_n (pc := 6) dX3_arrives_6 rfl ?_
    refine j_bipush (pc := 7) (v := 10) dX3_arrives_7 (by decide) ?_
    refine j_imul (pc := 9) dX3_arrives_9 ?_
    refine j_icmp_ge (pc := 10) (tgt := 28) dX3_arrives_10 (by decide) (fun c1 => ?_) (fun c1 => ?_)
    · rw [if_pos c1] at H
      refine Jx.sub (L' := [some (.ref 7), some (.int v1), none, some (.int v3)]) (⟨rfl, ⟨rfl, ⟨rfl, trivial⟩⟩⟩) ?_
      exact jX3_arrives_28 v1 v3 h H
    · rw [if_neg c1] at H
      refine j_iload_n (pc := 13) dX3_arrives_13 rfl ?_
      refine j_iload_n (pc := 14) dX3_arrives_14 rfl ?_
      refine j_icmp_ge (pc := 15) (tgt := 28) dX3_arrives_15 (by decide) (fun c2 => ?_) (fun c2 => ?_)
      · rw [if_pos c2] at H
        refine Jx.sub (L' := [some (.ref 7), some (.int v1), none, some (.int v3)]) (⟨rfl, ⟨rfl, ⟨rfl, trivial⟩⟩⟩) ?_
        exact jX3_arrives_28 v1 v3 h H
      · rw [if_neg c2] at H
        refine j_aload_n (pc := 18) dX3_arrives_18 rfl ?_
        obtain ⟨h3, eh3, H⟩ := bv_x H
        refine j_callV (pc := 19) dX3_arrives_19 mlX3_52 wyX3_goSecond (tX3_goSecond eh3) (by decide) rfl rfl rfl rfl (by simp [Value.category]) rfl ?_
        obtain ⟨v3_4, ev3_4, H⟩ := nm_x H
        refine j_iinc (pc := 22) (L' := [some (.ref 7), some (.int v1), some (.int v2), some (.int v3_4)]) (w := 1) dX3_arrives_22 rfl (by decide) (by decide) v3_4 ev3_4 rfl ?_
        refine j_goto (pc := 25) (tgt := 2) dX3_arrives_25 (by decide) ?_
        refine Jx.sub (L' := [some (.ref 7), some (.int v1), some (.int v2), some (.int v3_4)]) (⟨rfl, ⟨rfl, ⟨rfl, ⟨rfl, trivial⟩⟩⟩⟩) ?_
        exact ih v1 v2 v3_4 h3 H
noncomputable def fX3_arrives (p1 : Int32) (p2 : Int32) (h : HS) : Option (Int32 × HS) := fX3_arrives_2 FU p1 p2 (0 : Int32) h
set_option maxRecDepth 100000 in
theorem tX3_arrives {p1 : Int32} {p2 : Int32} {r : Int32} {h h0 : HS} (H : fX3_arrives p1 p2 h = some (r, h0)) : Cn skC yX3_arrives cX3_arrives 4 (some .int) 3 [.ref 7, .int p1, .int p2] h (some (.int r)) h0 := by
  refine Cn_of (L := [some (.ref 7), some (.int p1), some (.int p2), none]) (by decide +kernel) (by simp [lg_sl, Value.category]) (fun ad => by simp [lg_sl, tv, Value.category]) (⟨rfl, ⟨rfl, ⟨rfl, trivial⟩⟩⟩) ?_
  unfold fX3_arrives at H
  refine j_iconst (pc := 0) (v := 0) dX3_arrives_0 (by decide) ?_
  refine j_istore_n (pc := 1) (L' := [some (.ref 7), some (.int p1), some (.int p2), some (.int (0 : Int32))]) dX3_arrives_1 (by decide) rfl ?_
  refine Jx.sub (L' := [some (.ref 7), some (.int p1), some (.int p2), some (.int (0 : Int32))]) (⟨rfl, ⟨rfl, ⟨rfl, ⟨rfl, trivial⟩⟩⟩⟩) ?_
  exact jX3_arrives_2 FU p1 p2 (0 : Int32) h H
