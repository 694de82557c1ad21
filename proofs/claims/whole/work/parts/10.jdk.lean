theorem dJ6_bitCount_0f7a4_0 : decode cJ6_bitCount_0f7a4 0 = .ok (.iload_n 0, 1) := by decide +kernel
theorem dJ6_bitCount_0f7a4_1 : decode cJ6_bitCount_0f7a4 1 = .ok (.iload_n 0, 1) := by decide +kernel
theorem dJ6_bitCount_0f7a4_2 : decode cJ6_bitCount_0f7a4 2 = .ok (.iconst 1, 1) := by decide +kernel
theorem dJ6_bitCount_0f7a4_3 : decode cJ6_bitCount_0f7a4 3 = .ok (.iushr, 1) := by decide +kernel
theorem dJ6_bitCount_0f7a4_4 : decode cJ6_bitCount_0f7a4 4 = .ok (.ldc_w 265, 3) := by decide +kernel
theorem dJ6_bitCount_0f7a4_7 : decode cJ6_bitCount_0f7a4 7 = .ok (.iand, 1) := by decide +kernel
theorem dJ6_bitCount_0f7a4_8 : decode cJ6_bitCount_0f7a4 8 = .ok (.isub, 1) := by decide +kernel
theorem dJ6_bitCount_0f7a4_9 : decode cJ6_bitCount_0f7a4 9 = .ok (.istore_n 0, 1) := by decide +kernel
theorem dJ6_bitCount_0f7a4_10 : decode cJ6_bitCount_0f7a4 10 = .ok (.iload_n 0, 1) := by decide +kernel
theorem dJ6_bitCount_0f7a4_11 : decode cJ6_bitCount_0f7a4 11 = .ok (.ldc_w 266, 3) := by decide +kernel
theorem dJ6_bitCount_0f7a4_14 : decode cJ6_bitCount_0f7a4 14 = .ok (.iand, 1) := by decide +kernel
theorem dJ6_bitCount_0f7a4_15 : decode cJ6_bitCount_0f7a4 15 = .ok (.iload_n 0, 1) := by decide +kernel
theorem dJ6_bitCount_0f7a4_16 : decode cJ6_bitCount_0f7a4 16 = .ok (.iconst 2, 1) := by decide +kernel
theorem dJ6_bitCount_0f7a4_17 : decode cJ6_bitCount_0f7a4 17 = .ok (.iushr, 1) := by decide +kernel
theorem dJ6_bitCount_0f7a4_18 : decode cJ6_bitCount_0f7a4 18 = .ok (.ldc_w 266, 3) := by decide +kernel
theorem dJ6_bitCount_0f7a4_21 : decode cJ6_bitCount_0f7a4 21 = .ok (.iand, 1) := by decide +kernel
theorem dJ6_bitCount_0f7a4_22 : decode cJ6_bitCount_0f7a4 22 = .ok (.iadd, 1) := by decide +kernel
theorem dJ6_bitCount_0f7a4_23 : decode cJ6_bitCount_0f7a4 23 = .ok (.istore_n 0, 1) := by decide +kernel
theorem dJ6_bitCount_0f7a4_24 : decode cJ6_bitCount_0f7a4 24 = .ok (.iload_n 0, 1) := by decide +kernel
theorem dJ6_bitCount_0f7a4_25 : decode cJ6_bitCount_0f7a4 25 = .ok (.iload_n 0, 1) := by decide +kernel
theorem dJ6_bitCount_0f7a4_26 : decode cJ6_bitCount_0f7a4 26 = .ok (.iconst 4, 1) := by decide +kernel
theorem dJ6_bitCount_0f7a4_27 : decode cJ6_bitCount_0f7a4 27 = .ok (.iushr, 1) := by decide +kernel
theorem dJ6_bitCount_0f7a4_28 : decode cJ6_bitCount_0f7a4 28 = .ok (.iadd, 1) := by decide +kernel
theorem dJ6_bitCount_0f7a4_29 : decode cJ6_bitCount_0f7a4 29 = .ok (.ldc_w 267, 3) := by decide +kernel
theorem dJ6_bitCount_0f7a4_32 : decode cJ6_bitCount_0f7a4 32 = .ok (.iand, 1) := by decide +kernel
theorem dJ6_bitCount_0f7a4_33 : decode cJ6_bitCount_0f7a4 33 = .ok (.istore_n 0, 1) := by decide +kernel
theorem dJ6_bitCount_0f7a4_34 : decode cJ6_bitCount_0f7a4 34 = .ok (.iload_n 0, 1) := by decide +kernel
theorem dJ6_bitCount_0f7a4_35 : decode cJ6_bitCount_0f7a4 35 = .ok (.iload_n 0, 1) := by decide +kernel
theorem dJ6_bitCount_0f7a4_36 : decode cJ6_bitCount_0f7a4 36 = .ok (.bipush 8, 2) := by decide +kernel
theorem dJ6_bitCount_0f7a4_38 : decode cJ6_bitCount_0f7a4 38 = .ok (.iushr, 1) := by decide +kernel
theorem dJ6_bitCount_0f7a4_39 : decode cJ6_bitCount_0f7a4 39 = .ok (.iadd, 1) := by decide +kernel
theorem dJ6_bitCount_0f7a4_40 : decode cJ6_bitCount_0f7a4 40 = .ok (.istore_n 0, 1) := by decide +kernel
theorem dJ6_bitCount_0f7a4_41 : decode cJ6_bitCount_0f7a4 41 = .ok (.iload_n 0, 1) := by decide +kernel
theorem dJ6_bitCount_0f7a4_42 : decode cJ6_bitCount_0f7a4 42 = .ok (.iload_n 0, 1) := by decide +kernel
theorem dJ6_bitCount_0f7a4_43 : decode cJ6_bitCount_0f7a4 43 = .ok (.bipush 16, 2) := by decide +kernel
theorem dJ6_bitCount_0f7a4_45 : decode cJ6_bitCount_0f7a4 45 = .ok (.iushr, 1) := by decide +kernel
theorem dJ6_bitCount_0f7a4_46 : decode cJ6_bitCount_0f7a4 46 = .ok (.iadd, 1) := by decide +kernel
theorem dJ6_bitCount_0f7a4_47 : decode cJ6_bitCount_0f7a4 47 = .ok (.istore_n 0, 1) := by decide +kernel
theorem dJ6_bitCount_0f7a4_48 : decode cJ6_bitCount_0f7a4 48 = .ok (.iload_n 0, 1) := by decide +kernel
theorem dJ6_bitCount_0f7a4_49 : decode cJ6_bitCount_0f7a4 49 = .ok (.bipush 63, 2) := by decide +kernel
theorem dJ6_bitCount_0f7a4_51 : decode cJ6_bitCount_0f7a4 51 = .ok (.iand, 1) := by decide +kernel
theorem dJ6_bitCount_0f7a4_52 : decode cJ6_bitCount_0f7a4 52 = .ok (.ireturn, 1) := by decide +kernel
theorem dX11_between_0 : decode cX11_between 0 = .ok (.iload_n 0, 1) := by decide +kernel
theorem dX11_between_1 : decode cX11_between 1 = .ok (.iload_n 1, 1) := by decide +kernel
theorem dX11_between_2 : decode cX11_between 2 = .ok (.if_icmp .lt 12, 3) := by decide +kernel
theorem dX11_between_5 : decode cX11_between 5 = .ok (.iload_n 0, 1) := by decide +kernel
theorem dX11_between_6 : decode cX11_between 6 = .ok (.iload_n 2, 1) := by decide +kernel
theorem dX11_between_7 : decode cX11_between 7 = .ok (.if_icmp .gt 7, 3) := by decide +kernel
theorem dX11_between_10 : decode cX11_between 10 = .ok (.iconst 1, 1) := by decide +kernel
theorem dX11_between_11 : decode cX11_between 11 = .ok (.goto 4, 3) := by decide +kernel
theorem dX11_between_14 : decode cX11_between 14 = .ok (.iconst 0, 1) := by decide +kernel
theorem dX11_between_15 : decode cX11_between 15 = .ok (.ireturn, 1) := by decide +kernel
theorem dX11_clamp_0 : decode cX11_clamp 0 = .ok (.iload_n 1, 1) := by decide +kernel
theorem dX11_clamp_1 : decode cX11_clamp 1 = .ok (.iload_n 2, 1) := by decide +kernel
theorem dX11_clamp_2 : decode cX11_clamp 2 = .ok (.iload_n 0, 1) := by decide +kernel
theorem dX11_clamp_3 : decode cX11_clamp 3 = .ok (.invokestatic 108, 3) := by decide +kernel
theorem dX11_clamp_6 : decode cX11_clamp 6 = .ok (.invokestatic 425, 3) := by decide +kernel
theorem dX11_clamp_9 : decode cX11_clamp 9 = .ok (.ireturn, 1) := by decide +kernel
theorem dX11_isDepth_0 : decode cX11_isDepth 0 = .ok (.iload_n 0, 1) := by decide +kernel
theorem dX11_isDepth_1 : decode cX11_isDepth 1 = .ok (.iconst 0, 1) := by decide +kernel
theorem dX11_isDepth_2 : decode cX11_isDepth 2 = .ok (.sipush 600, 3) := by decide +kernel
theorem dX11_isDepth_5 : decode cX11_isDepth 5 = .ok (.invokestatic 81, 3) := by decide +kernel
theorem dX11_isDepth_8 : decode cX11_isDepth 8 = .ok (.ireturn, 1) := by decide +kernel
theorem dX11_isWayDown_0 : decode cX11_isWayDown 0 = .ok (.iload_n 0, 1) := by decide +kernel
theorem dX11_isWayDown_1 : decode cX11_isWayDown 1 = .ok (.invokestatic 142, 3) := by decide +kernel
theorem dX11_isWayDown_4 : decode cX11_isWayDown 4 = .ok (.ifCond .eq 19, 3) := by decide +kernel
theorem dX11_isWayDown_7 : decode cX11_isWayDown 7 = .ok (.iload_n 1, 1) := by decide +kernel
theorem dX11_isWayDown_8 : decode cX11_isWayDown 8 = .ok (.invokestatic 142, 3) := by decide +kernel
theorem dX11_isWayDown_11 : decode cX11_isWayDown 11 = .ok (.ifCond .eq 12, 3) := by decide +kernel
theorem dX11_isWayDown_14 : decode cX11_isWayDown 14 = .ok (.iload_n 0, 1) := by decide +kernel
theorem dX11_isWayDown_15 : decode cX11_isWayDown 15 = .ok (.iload_n 1, 1) := by decide +kernel
theorem dX11_isWayDown_16 : decode cX11_isWayDown 16 = .ok (.if_icmp .gt 7, 3) := by decide +kernel
theorem dX11_isWayDown_19 : decode cX11_isWayDown 19 = .ok (.iconst 1, 1) := by decide +kernel
theorem dX11_isWayDown_20 : decode cX11_isWayDown 20 = .ok (.goto 4, 3) := by decide +kernel
theorem dX11_isWayDown_23 : decode cX11_isWayDown 23 = .ok (.iconst 0, 1) := by decide +kernel
theorem dX11_isWayDown_24 : decode cX11_isWayDown 24 = .ok (.ireturn, 1) := by decide +kernel
theorem dX11_isDigit_0 : decode cX11_isDigit 0 = .ok (.iload_n 0, 1) := by decide +kernel
theorem dX11_isDigit_1 : decode cX11_isDigit 1 = .ok (.bipush 48, 2) := by decide +kernel
theorem dX11_isDigit_3 : decode cX11_isDigit 3 = .ok (.if_icmp .lt 13, 3) := by decide +kernel
theorem dX11_isDigit_6 : decode cX11_isDigit 6 = .ok (.iload_n 0, 1) := by decide +kernel
theorem dX11_isDigit_7 : decode cX11_isDigit 7 = .ok (.bipush 57, 2) := by decide +kernel
theorem dX11_isDigit_9 : decode cX11_isDigit 9 = .ok (.if_icmp .gt 7, 3) := by decide +kernel
theorem dX11_isDigit_12 : decode cX11_isDigit 12 = .ok (.iconst 1, 1) := by decide +kernel
theorem dX11_isDigit_13 : decode cX11_isDigit 13 = .ok (.goto 4, 3) := by decide +kernel
theorem dX11_isDigit_16 : decode cX11_isDigit 16 = .ok (.iconst 0, 1) := by decide +kernel
theorem dX11_isDigit_17 : decode cX11_isDigit 17 = .ok (.ireturn, 1) := by decide +kernel
noncomputable def fJ6_bitCount_0f7a4 (p1 : Int32) (h : HS) : Option (Int32 × HS) := nm ((p1 - ((iush p1 (1 : Int32)) &&& (1431655765 : Int32)))) (fun v0_1 => nm (((v0_1 &&& (858993459 : Int32)) + ((iush v0_1 (2 : Int32)) &&& (858993459 : Int32)))) (fun v0_2 => nm (((v0_2 + (iush v0_2 (4 : Int32))) &&& (252645135 : Int32))) (fun v0_3 => nm ((v0_3 + (iush v0_3 (8 : Int32)))) (fun v0_4 => nm ((v0_4 + (iush v0_4 (16 : Int32)))) (fun v0_5 => some ((v0_5 &&& (63 : Int32)), h))))))
set_option maxRecDepth 100000 in
theorem tJ6_bitCount_0f7a4 {sk : SK} {p1 : Int32} {r : Int32} {h h0 : HS} (H : fJ6_bitCount_0f7a4 p1 h = some (r, h0)) : Cn sk yJ6_bitCount_0f7a4 cJ6_bitCount_0f7a4 1 (some .int) 0 [.int p1] h (some (.int r)) h0 := by
  refine Cn_of (L := [some (.int p1)]) (by decide +kernel) (by simp [lg_sl, Value.category]) (fun ad => by simp [lg_sl, tv, Value.category]) (⟨rfl, trivial⟩) ?_
  unfold fJ6_bitCount_0f7a4 at H
  refine j_iload_n (pc := 0) dJ6_bitCount_0f7a4_0 rfl ?_
  refine j_iload_n (pc := 1) dJ6_bitCount_0f7a4_1 rfl ?_
  refine j_iconst (pc := 2) (v := 1) dJ6_bitCount_0f7a4_2 (by decide) ?_
  refine j_iushr (pc := 3) dJ6_bitCount_0f7a4_3 ?_
  refine j_ldcw (pc := 4) dJ6_bitCount_0f7a4_4 wkJ6_265 ?_
  refine j_iand (pc := 7) dJ6_bitCount_0f7a4_7 ?_
  refine j_isub (pc := 8) dJ6_bitCount_0f7a4_8 ?_
  obtain ⟨v0_1, ev0_1, H⟩ := nm_x H
  refine j_topi ev0_1 ?_
  refine j_istore_n (pc := 9) (L' := [some (.int v0_1)]) dJ6_bitCount_0f7a4_9 (by decide) rfl ?_
  refine j_iload_n (pc := 10) dJ6_bitCount_0f7a4_10 rfl ?_
  refine j_ldcw (pc := 11) dJ6_bitCount_0f7a4_11 wkJ6_266 ?_
  refine j_iand (pc := 14) dJ6_bitCount_0f7a4_14 ?_
  refine j_iload_n (pc := 15) dJ6_bitCount_0f7a4_15 rfl ?_
  refine j_iconst (pc := 16) (v := 2) dJ6_bitCount_0f7a4_16 (by decide) ?_
  refine j_iushr (pc := 17) dJ6_bitCount_0f7a4_17 ?_
  refine j_ldcw (pc := 18) dJ6_bitCount_0f7a4_18 wkJ6_266 ?_
  refine j_iand (pc := 21) dJ6_bitCount_0f7a4_21 ?_
  refine j_iadd (pc := 22) dJ6_bitCount_0f7a4_22 ?_
  obtain ⟨v0_2, ev0_2, H⟩ := nm_x H
  refine j_topi ev0_2 ?_
  refine j_istore_n (pc := 23) (L' := [some (.int v0_2)]) dJ6_bitCount_0f7a4_23 (by decide) rfl ?_
  refine j_iload_n (pc := 24) dJ6_bitCount_0f7a4_24 rfl ?_
  refine j_iload_n (pc := 25) dJ6_bitCount_0f7a4_25 rfl ?_
  refine j_iconst (pc := 26) (v := 4) dJ6_bitCount_0f7a4_26 (by decide) ?_
  refine j_iushr (pc := 27) dJ6_bitCount_0f7a4_27 ?_
  refine j_iadd (pc := 28) dJ6_bitCount_0f7a4_28 ?_
  refine j_ldcw (pc := 29) dJ6_bitCount_0f7a4_29 wkJ6_267 ?_
  refine j_iand (pc := 32) dJ6_bitCount_0f7a4_32 ?_
  obtain ⟨v0_3, ev0_3, H⟩ := nm_x H
  refine j_topi ev0_3 ?_
  refine j_istore_n (pc := 33) (L' := [some (.int v0_3)]) dJ6_bitCount_0f7a4_33 (by decide) rfl ?_
  refine j_iload_n (pc := 34) dJ6_bitCount_0f7a4_34 rfl ?_
  refine j_iload_n (pc := 35) dJ6_bitCount_0f7a4_35 rfl ?_
  refine j_bipush (pc := 36) (v := 8) dJ6_bitCount_0f7a4_36 (by decide) ?_
  refine j_iushr (pc := 38) dJ6_bitCount_0f7a4_38 ?_
  refine j_iadd (pc := 39) dJ6_bitCount_0f7a4_39 ?_
  obtain ⟨v0_4, ev0_4, H⟩ := nm_x H
  refine j_topi ev0_4 ?_
  refine j_istore_n (pc := 40) (L' := [some (.int v0_4)]) dJ6_bitCount_0f7a4_40 (by decide) rfl ?_
  refine j_iload_n (pc := 41) dJ6_bitCount_0f7a4_41 rfl ?_
  refine j_iload_n (pc := 42) dJ6_bitCount_0f7a4_42 rfl ?_
  refine j_bipush (pc := 43) (v := 16) dJ6_bitCount_0f7a4_43 (by decide) ?_
  refine j_iushr (pc := 45) dJ6_bitCount_0f7a4_45 ?_
  refine j_iadd (pc := 46) dJ6_bitCount_0f7a4_46 ?_
  obtain ⟨v0_5, ev0_5, H⟩ := nm_x H
  refine j_topi ev0_5 ?_
  refine j_istore_n (pc := 47) (L' := [some (.int v0_5)]) dJ6_bitCount_0f7a4_47 (by decide) rfl ?_
  refine j_iload_n (pc := 48) dJ6_bitCount_0f7a4_48 rfl ?_
  refine j_bipush (pc := 49) (v := 63) dJ6_bitCount_0f7a4_49 (by decide) ?_
  refine j_iand (pc := 51) dJ6_bitCount_0f7a4_51 ?_
  exact j_ireturn (pc := 52) dJ6_bitCount_0f7a4_52 rfl (ri_1 H) (ri_2 H)

noncomputable def fX11_between (p1 : Int32) (p2 : Int32) (p3 : Int32) (h : HS) : Option (Int32 × HS) := if p1 < p2 then (some ((0 : Int32), h)) else (if p3 < p1 then (some ((0 : Int32), h)) else (some ((1 : Int32), h)))
set_option maxRecDepth 100000 in
theorem tX11_between {p1 : Int32} {p2 : Int32} {p3 : Int32} {r : Int32} {h h0 : HS} (H : fX11_between p1 p2 p3 h = some (r, h0)) : Cn skC yX11_between cX11_between 3 (some .boolean) 0 [.int p1, .int p2, .int p3] h (some (.int r)) h0 := by
  refine Cn_of (L := [some (.int p1), some (.int p2), some (.int p3)]) (by decide +kernel) (by simp [lg_sl, Value.category]) (fun ad => by simp [lg_sl, tv, Value.category]) (⟨rfl, ⟨rfl, ⟨rfl, trivial⟩⟩⟩) ?_
  unfold fX11_between at H
  refine j_iload_n (pc := 0) dX11_between_0 rfl ?_
  refine j_iload_n (pc := 1) dX11_between_1 rfl ?_
  refine j_icmp_lt (pc := 2) (tgt := 14) dX11_between_2 (by decide) (fun c1 => ?_) (fun c1 => ?_)
  · rw [if_pos c1] at H
    refine j_iconst (pc := 14) (v := 0) dX11_between_14 (by decide) ?_
    exact j_zreturn (pc := 15) dX11_between_15 rfl (rz0 H) (ri_2 H)
  · rw [if_neg c1] at H
    refine j_iload_n (pc := 5) dX11_between_5 rfl ?_
    refine j_iload_n (pc := 6) dX11_between_6 rfl ?_
    refine j_icmp_gt (pc := 7) (tgt := 14) dX11_between_7 (by decide) (fun c2 => ?_) (fun c2 => ?_)
    · rw [if_pos c2] at H
      refine j_iconst (pc := 14) (v := 0) dX11_between_14 (by decide) ?_
      exact j_zreturn (pc := 15) dX11_between_15 rfl (rz0 H) (ri_2 H)
    · rw [if_neg c2] at H
      refine j_iconst (pc := 10) (v := 1) dX11_between_10 (by decide) ?_
      refine j_goto (pc := 11) (tgt := 15) dX11_between_11 (by decide) ?_
      exact j_zreturn (pc := 15) dX11_between_15 rfl (rz1 H) (ri_2 H)

noncomputable def fX11_clamp (p1 : Int32) (p2 : Int32) (p3 : Int32) (h : HS) : Option (Int32 × HS) := some ((imax p2 (imin p3 p1)), h)
set_option maxRecDepth 100000 in
theorem tX11_clamp {p1 : Int32} {p2 : Int32} {p3 : Int32} {r : Int32} {h h0 : HS} (H : fX11_clamp p1 p2 p3 h = some (r, h0)) : Cn skC yX11_clamp cX11_clamp 3 (some .int) 0 [.int p1, .int p2, .int p3] h (some (.int r)) h0 := by
  refine Cn_of (L := [some (.int p1), some (.int p2), some (.int p3)]) (by decide +kernel) (by simp [lg_sl, Value.category]) (fun ad => by simp [lg_sl, tv, Value.category]) (⟨rfl, ⟨rfl, ⟨rfl, trivial⟩⟩⟩) ?_
  unfold fX11_clamp at H
  refine j_iload_n (pc := 0) dX11_clamp_0 rfl ?_
  refine j_iload_n (pc := 1) dX11_clamp_1 rfl ?_
  refine j_iload_n (pc := 2) dX11_clamp_2 rfl ?_
  refine j_mmin (pc := 3) dX11_clamp_3 wmX11_108 (by simp [Value.category]) ?_
  refine j_mmax (pc := 6) dX11_clamp_6 wmX11_425 (by simp [Value.category]) ?_
  exact j_ireturn (pc := 9) dX11_clamp_9 rfl (ri_1 H) (ri_2 H)

noncomputable def fX11_isDepth (p1 : Int32) (h : HS) : Option (Int32 × HS) := bd (fX11_between p1 (0 : Int32) (600 : Int32) h) (fun r2 h1 => some (vp_nar .boolean r2, h1))
set_option maxRecDepth 100000 in
theorem tX11_isDepth {p1 : Int32} {r : Int32} {h h0 : HS} (H : fX11_isDepth p1 h = some (r, h0)) : Cn skC yX11_isDepth cX11_isDepth 1 (some .boolean) 1 [.int p1] h (some (.int r)) h0 := by
  refine Cn_of (L := [some (.int p1)]) (by decide +kernel) (by simp [lg_sl, Value.category]) (fun ad => by simp [lg_sl, tv, Value.category]) (⟨rfl, trivial⟩) ?_
  unfold fX11_isDepth at H
  refine j_iload_n (pc := 0) dX11_isDepth_0 rfl ?_
  refine j_iconst (pc := 1) (v := 0) dX11_isDepth_1 (by decide) ?_
  refine j_sipush (pc := 2) (v := 600) dX11_isDepth_2 (by decide) ?_
  obtain ⟨r2, h1, eh1, H⟩ := bd_x H
  refine j_callS (pc := 5) dX11_isDepth_5 mlX11_81 wyX11_between (tX11_between eh1) (by decide) rfl (by simp [Value.category]) rfl ?_
  exact j_zreturn (pc := 8) dX11_isDepth_8 rfl (ri_1 H) (ri_2 H)

noncomputable def fX11_isWayDown (p1 : Int32) (p2 : Int32) (h : HS) : Option (Int32 × HS) := bd (fX11_isDepth p1 h) (fun r2 h1 => if r2 = 0 then (some ((0 : Int32), h1)) else (bd (fX11_isDepth p2 h1) (fun r5 h4 => if r5 = 0 then (some ((0 : Int32), h4)) else (if p2 < p1 then (some ((0 : Int32), h4)) else (some ((1 : Int32), h4))))))
set_option maxRecDepth 100000 in
theorem tX11_isWayDown {p1 : Int32} {p2 : Int32} {r : Int32} {h h0 : HS} (H : fX11_isWayDown p1 p2 h = some (r, h0)) : Cn skC yX11_isWayDown cX11_isWayDown 2 (some .boolean) 2 [.int p1, .int p2] h (some (.int r)) h0 := by
  refine Cn_of (L := [some (.int p1), some (.int p2)]) (by decide +kernel) (by simp [lg_sl, Value.category]) (fun ad => by simp [lg_sl, tv, Value.category]) (⟨rfl, ⟨rfl, trivial⟩⟩) ?_
  unfold fX11_isWayDown at H
  refine j_iload_n (pc := 0) dX11_isWayDown_0 rfl ?_
  obtain ⟨r2, h1, eh1, H⟩ := bd_x H
  refine j_callS (pc := 1) dX11_isWayDown_1 mlX11_142 wyX11_isDepth (tX11_isDepth eh1) (by decide) rfl (by simp [Value.category]) rfl ?_
  refine j_if_eq (pc := 4) (tgt := 23) dX11_isWayDown_4 (by decide) (fun c3 => ?_) (fun c3 => ?_)
  · rw [if_pos c3] at H
    refine j_iconst (pc := 23) (v := 0) dX11_isWayDown_23 (by decide) ?_
    exact j_zreturn (pc := 24) dX11_isWayDown_24 rfl (rz0 H) (ri_2 H)
  · rw [if_neg c3] at H
    refine j_iload_n (pc := 7) dX11_isWayDown_7 rfl ?_
    obtain ⟨r5, h4, eh4, H⟩ := bd_x H
    refine j_callS (pc := 8) dX11_isWayDown_8 mlX11_142 wyX11_isDepth (tX11_isDepth eh4) (by decide) rfl (by simp [Value.category]) rfl ?_
    refine j_if_eq (pc := 11) (tgt := 23) dX11_isWayDown_11 (by decide) (fun c6 => ?_) (fun c6 => ?_)
    · rw [if_pos c6] at H
      refine j_iconst (pc := 23) (v := 0) dX11_isWayDown_23 (by decide) ?_
      exact j_zreturn (pc := 24) dX11_isWayDown_24 rfl (rz0 H) (ri_2 H)
    · rw [if_neg c6] at H
      refine j_iload_n (pc := 14) dX11_isWayDown_14 rfl ?_
      refine j_iload_n (pc := 15) dX11_isWayDown_15 rfl ?_
      refine j_icmp_gt (pc := 16) (tgt := 23) dX11_isWayDown_16 (by decide) (fun c7 => ?_) (fun c7 => ?_)
      · rw [if_pos c7] at H
        refine j_iconst (pc := 23) (v := 0) dX11_isWayDown_23 (by decide) ?_
        exact j_zreturn (pc := 24) dX11_isWayDown_24 rfl (rz0 H) (ri_2 H)
      · rw [if_neg c7] at H
        refine j_iconst (pc := 19) (v := 1) dX11_isWayDown_19 (by decide) ?_
        refine j_goto (pc := 20) (tgt := 24) dX11_isWayDown_20 (by decide) ?_
        exact j_zreturn (pc := 24) dX11_isWayDown_24 rfl (rz1 H) (ri_2 H)

noncomputable def fX11_isDigit (p1 : Int32) (h : HS) : Option (Int32 × HS) := if p1 < (48 : Int32) then (some ((0 : Int32), h)) else (if (57 : Int32) < p1 then (some ((0 : Int32), h)) else (some ((1 : Int32), h)))
set_option maxRecDepth 100000 in
theorem tX11_isDigit {p1 : Int32} {r : Int32} {h h0 : HS} (H : fX11_isDigit p1 h = some (r, h0)) : Cn skC yX11_isDigit cX11_isDigit 1 (some .boolean) 0 [.int p1] h (some (.int r)) h0 := by
  refine Cn_of (L := [some (.int p1)]) (by decide +kernel) (by simp [lg_sl, Value.category]) (fun ad => by simp [lg_sl, tv, Value.category]) (⟨rfl, trivial⟩) ?_
  unfold fX11_isDigit at H
  refine j_iload_n (pc := 0) dX11_isDigit_0 rfl ?_
  refine j_bipush (pc := 1) (v := 48) dX11_isDigit_1 (by decide) ?_
  refine j_icmp_lt (pc := 3) (tgt := 16) dX11_isDigit_3 (by decide) (fun c1 => ?_) (fun c1 => ?_)
  · rw [if_pos c1] at H
    refine j_iconst (pc := 16) (v := 0) dX11_isDigit_16 (by decide) ?_
    exact j_zreturn (pc := 17) dX11_isDigit_17 rfl (rz0 H) (ri_2 H)
  · rw [if_neg c1] at H
    refine j_iload_n (pc := 6) dX11_isDigit_6 rfl ?_
    refine j_bipush (pc := 7) (v := 57) dX11_isDigit_7 (by decide) ?_
    refine j_icmp_gt (pc := 9) (tgt := 16) dX11_isDigit_9 (by decide) (fun c2 => ?_) (fun c2 => ?_)
    · rw [if_pos c2] at H
      refine j_iconst (pc := 16) (v := 0) dX11_isDigit_16 (by decide) ?_
      exact j_zreturn (pc := 17) dX11_isDigit_17 rfl (rz0 H) (ri_2 H)
    · rw [if_neg c2] at H
      refine j_iconst (pc := 12) (v := 1) dX11_isDigit_12 (by decide) ?_
      refine j_goto (pc := 13) (tgt := 17) dX11_isDigit_13 (by decide) ?_
      exact j_zreturn (pc := 17) dX11_isDigit_17 rfl (rz1 H) (ri_2 H)
