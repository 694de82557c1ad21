theorem dX6_empty_0 : decode cX6_empty 0 = .ok (.aload_n 0, 1) := by decide +kernel
theorem dX6_empty_1 : decode cX6_empty 1 = .ok (.iconst 0, 1) := by decide +kernel
theorem dX6_empty_2 : decode cX6_empty 2 = .ok (.putfield 15, 3) := by decide +kernel
theorem dX6_empty_5 : decode cX6_empty 5 = .ok (.return_, 1) := by decide +kernel
theorem dX6_add_0 : decode cX6_add 0 = .ok (.aload_n 0, 1) := by decide +kernel
theorem dX6_add_1 : decode cX6_add 1 = .ok (.getfield 15, 3) := by decide +kernel
theorem dX6_add_4 : decode cX6_add 4 = .ok (.aload_n 0, 1) := by decide +kernel
theorem dX6_add_5 : decode cX6_add 5 = .ok (.getfield 9, 3) := by decide +kernel
theorem dX6_add_8 : decode cX6_add 8 = .ok (.arraylength, 1) := by decide +kernel
theorem dX6_add_9 : decode cX6_add 9 = .ok (.if_icmp .ge 23, 3) := by decide +kernel
theorem dX6_add_12 : decode cX6_add 12 = .ok (.aload_n 0, 1) := by decide +kernel
theorem dX6_add_13 : decode cX6_add 13 = .ok (.getfield 9, 3) := by decide +kernel
theorem dX6_add_16 : decode cX6_add 16 = .ok (.aload_n 0, 1) := by decide +kernel
theorem dX6_add_17 : decode cX6_add 17 = .ok (.getfield 15, 3) := by decide +kernel
theorem dX6_add_20 : decode cX6_add 20 = .ok (.iload_n 1, 1) := by decide +kernel
theorem dX6_add_21 : decode cX6_add 21 = .ok (.iastore, 1) := by decide +kernel
theorem dX6_add_22 : decode cX6_add 22 = .ok (.aload_n 0, 1) := by decide +kernel
theorem dX6_add_23 : decode cX6_add 23 = .ok (.dup, 1) := by decide +kernel
theorem dX6_add_24 : decode cX6_add 24 = .ok (.getfield 15, 3) := by decide +kernel
theorem dX6_add_27 : decode cX6_add 27 = .ok (.iconst 1, 1) := by decide +kernel
theorem dX6_add_28 : decode cX6_add 28 = .ok (.iadd, 1) := by decide +kernel
theorem dX6_add_29 : decode cX6_add 29 = .ok (.putfield 15, 3) := by decide +kernel
theorem dX6_add_32 : decode cX6_add 32 = .ok (.return_, 1) := by decide +kernel
noncomputable def fX6_empty (h : HS) : Option HS := nm (pI h 4 1 (0 : Int32)) (fun h1 => some h1)
set_option maxRecDepth 100000 in
theorem tX6_empty {h h0 : HS} (H : fX6_empty h = some h0) : Cn skC yX6_empty cX6_empty 1 none 0 [.ref 4] h none h0 := by
  refine Cn_of (L := [some (.ref 4)]) (by decide +kernel) (by simp [lg_sl, Value.category]) (fun ad => by simp [lg_sl, tv, Value.category]) (⟨rfl, trivial⟩) ?_
  unfold fX6_empty at H
  refine j_aload_n (pc := 0) dX6_empty_0 rfl ?_
  refine j_iconst (pc := 1) (v := 0) dX6_empty_1 (by decide) ?_
  obtain ⟨h1, eh1, H⟩ := nm_x H
  refine j_putI (pc := 2) dX6_empty_2 fpX6_15 rfl h1 eh1 ?_
  exact j_return (pc := 5) dX6_empty_5 rfl rfl (rv_2 H)

noncomputable def fX6_add (p1 : Int32) (h : HS) : Option HS := if (20 : Int32) ≤ (gI h 4 1) then (some h) else (ck (inb (gI h 4 1) 20) (nm (pI h 35 (gI h 4 1).toNatClampNeg p1) (fun h2 => nm (pI h2 4 1 ((gI h2 4 1) + (1 : Int32))) (fun h4 => some h4))))
set_option maxRecDepth 100000 in
theorem tX6_add {p1 : Int32} {h h0 : HS} (H : fX6_add p1 h = some h0) : Cn skC yX6_add cX6_add 2 none 0 [.ref 4, .int p1] h none h0 := by
  refine Cn_of (L := [some (.ref 4), some (.int p1)]) (by decide +kernel) (by simp [lg_sl, Value.category]) (fun ad => by simp [lg_sl, tv, Value.category]) (⟨rfl, ⟨rfl, trivial⟩⟩) ?_
  unfold fX6_add at H
  refine j_aload_n (pc := 0) dX6_add_0 rfl ?_
  refine j_getI (pc := 1) dX6_add_1 flX6_15 rfl ?_
  refine j_aload_n (pc := 4) dX6_add_4 rfl ?_
  refine j_getR (pc := 5) (b := 35) dX6_add_5 flX6_9 rfl ?_
  refine j_alen (pc := 8) (v := 20) dX6_add_8 rfl (by decide) ?_
  refine j_icmp_ge (pc := 9) (tgt := 32) dX6_add_9 (by decide) (fun c1 => ?_) (fun c1 => ?_)
  · rw [if_pos c1] at H
    exact j_return (pc := 32) dX6_add_32 rfl rfl (rv_2 H)
  · rw [if_neg c1] at H
    refine j_aload_n (pc := 12) dX6_add_12 rfl ?_
    refine j_getR (pc := 13) (b := 35) dX6_add_13 flX6_9 rfl ?_
    refine j_aload_n (pc := 16) dX6_add_16 rfl ?_
    refine j_getI (pc := 17) dX6_add_17 flX6_15 rfl ?_
    refine j_iload_n (pc := 20) dX6_add_20 rfl ?_
    obtain ⟨b3, H⟩ := ck_x H
    obtain ⟨h2, eh2, H⟩ := nm_x H
    refine j_iastore (pc := 21) dX6_add_21 rfl b3 rfl h2 eh2 ?_
    refine j_aload_n (pc := 22) dX6_add_22 rfl ?_
    refine j_dup (pc := 23) dX6_add_23 rfl ?_
    refine j_getI (pc := 24) dX6_add_24 flX6_15 rfl ?_
    refine j_iconst (pc := 27) (v := 1) dX6_add_27 (by decide) ?_
    refine j_iadd (pc := 28) dX6_add_28 ?_
    obtain ⟨h4, eh4, H⟩ := nm_x H
    refine j_putI (pc := 29) dX6_add_29 fpX6_15 rfl h4 eh4 ?_
    exact j_return (pc := 32) dX6_add_32 rfl rfl (rv_2 H)
