theorem dX10_addLayer_0 : decode cX10_addLayer 0 = .ok (.aload_n 0, 1) := by decide +kernel
theorem dX10_addLayer_1 : decode cX10_addLayer 1 = .ok (.getfield 22, 3) := by decide +kernel
theorem dX10_addLayer_4 : decode cX10_addLayer 4 = .ok (.bipush 6, 2) := by decide +kernel
theorem dX10_addLayer_6 : decode cX10_addLayer 6 = .ok (.if_icmp .ge 25, 3) := by decide +kernel
theorem dX10_addLayer_9 : decode cX10_addLayer 9 = .ok (.aload_n 0, 1) := by decide +kernel
theorem dX10_addLayer_10 : decode cX10_addLayer 10 = .ok (.getfield 22, 3) := by decide +kernel
theorem dX10_addLayer_13 : decode cX10_addLayer 13 = .ok (.ifCond .le 20, 3) := by decide +kernel
theorem dX10_addLayer_16 : decode cX10_addLayer 16 = .ok (.iload_n 1, 1) := by decide +kernel
theorem dX10_addLayer_17 : decode cX10_addLayer 17 = .ok (.aload_n 0, 1) := by decide +kernel
theorem dX10_addLayer_18 : decode cX10_addLayer 18 = .ok (.getfield 9, 3) := by decide +kernel
theorem dX10_addLayer_21 : decode cX10_addLayer 21 = .ok (.aload_n 0, 1) := by decide +kernel
theorem dX10_addLayer_22 : decode cX10_addLayer 22 = .ok (.getfield 22, 3) := by decide +kernel
theorem dX10_addLayer_25 : decode cX10_addLayer 25 = .ok (.iconst 1, 1) := by decide +kernel
theorem dX10_addLayer_26 : decode cX10_addLayer 26 = .ok (.isub, 1) := by decide +kernel
theorem dX10_addLayer_27 : decode cX10_addLayer 27 = .ok (.iaload, 1) := by decide +kernel
theorem dX10_addLayer_28 : decode cX10_addLayer 28 = .ok (.if_icmp .gt 5, 3) := by decide +kernel
theorem dX10_addLayer_31 : decode cX10_addLayer 31 = .ok (.iconst (-1), 1) := by decide +kernel
theorem dX10_addLayer_32 : decode cX10_addLayer 32 = .ok (.ireturn, 1) := by decide +kernel
theorem dX10_addLayer_33 : decode cX10_addLayer 33 = .ok (.aload_n 0, 1) := by decide +kernel
theorem dX10_addLayer_34 : decode cX10_addLayer 34 = .ok (.getfield 9, 3) := by decide +kernel
theorem dX10_addLayer_37 : decode cX10_addLayer 37 = .ok (.aload_n 0, 1) := by decide +kernel
theorem dX10_addLayer_38 : decode cX10_addLayer 38 = .ok (.getfield 22, 3) := by decide +kernel
theorem dX10_addLayer_41 : decode cX10_addLayer 41 = .ok (.iload_n 1, 1) := by decide +kernel
theorem dX10_addLayer_42 : decode cX10_addLayer 42 = .ok (.iastore, 1) := by decide +kernel
theorem dX10_addLayer_43 : decode cX10_addLayer 43 = .ok (.aload_n 0, 1) := by decide +kernel
theorem dX10_addLayer_44 : decode cX10_addLayer 44 = .ok (.getfield 15, 3) := by decide +kernel
theorem dX10_addLayer_47 : decode cX10_addLayer 47 = .ok (.aload_n 0, 1) := by decide +kernel
theorem dX10_addLayer_48 : decode cX10_addLayer 48 = .ok (.getfield 22, 3) := by decide +kernel
theorem dX10_addLayer_51 : decode cX10_addLayer 51 = .ok (.iload_n 2, 1) := by decide +kernel
theorem dX10_addLayer_52 : decode cX10_addLayer 52 = .ok (.iastore, 1) := by decide +kernel
theorem dX10_addLayer_53 : decode cX10_addLayer 53 = .ok (.aload_n 0, 1) := by decide +kernel
theorem dX10_addLayer_54 : decode cX10_addLayer 54 = .ok (.dup, 1) := by decide +kernel
theorem dX10_addLayer_55 : decode cX10_addLayer 55 = .ok (.getfield 22, 3) := by decide +kernel
theorem dX10_addLayer_58 : decode cX10_addLayer 58 = .ok (.iconst 1, 1) := by decide +kernel
theorem dX10_addLayer_59 : decode cX10_addLayer 59 = .ok (.iadd, 1) := by decide +kernel
theorem dX10_addLayer_60 : decode cX10_addLayer 60 = .ok (.putfield 22, 3) := by decide +kernel
theorem dX10_addLayer_63 : decode cX10_addLayer 63 = .ok (.aload_n 0, 1) := by decide +kernel
theorem dX10_addLayer_64 : decode cX10_addLayer 64 = .ok (.getfield 22, 3) := by decide +kernel
theorem dX10_addLayer_67 : decode cX10_addLayer 67 = .ok (.ireturn, 1) := by decide +kernel
theorem dX10_densityAt_0 : decode cX10_densityAt 0 = .ok (.sipush 1000, 3) := by decide +kernel
theorem dX10_densityAt_3 : decode cX10_densityAt 3 = .ok (.istore_n 2, 1) := by decide +kernel
theorem dX10_densityAt_4 : decode cX10_densityAt 4 = .ok (.iconst 0, 1) := by decide +kernel
theorem dX10_densityAt_5 : decode cX10_densityAt 5 = .ok (.istore_n 3, 1) := by decide +kernel
theorem dX10_densityAt_6 : decode cX10_densityAt 6 = .ok (.iload_n 3, 1) := by decide +kernel
theorem dX10_densityAt_7 : decode cX10_densityAt 7 = .ok (.aload_n 0, 1) := by decide +kernel
theorem dX10_densityAt_8 : decode cX10_densityAt 8 = .ok (.getfield 22, 3) := by decide +kernel
theorem dX10_densityAt_11 : decode cX10_densityAt 11 = .ok (.if_icmp .ge 26, 3) := by decide +kernel
theorem dX10_densityAt_14 : decode cX10_densityAt 14 = .ok (.aload_n 0, 1) := by decide +kernel
theorem dX10_densityAt_15 : decode cX10_densityAt 15 = .ok (.getfield 9, 3) := by decide +kernel
theorem dX10_densityAt_18 : decode cX10_densityAt 18 = .ok (.iload_n 3, 1) := by decide +kernel
theorem dX10_densityAt_19 : decode cX10_densityAt 19 = .ok (.iaload, 1) := by decide +kernel
theorem dX10_densityAt_20 : decode cX10_densityAt 20 = .ok (.iload_n 1, 1) := by decide +kernel
theorem dX10_densityAt_21 : decode cX10_densityAt 21 = .ok (.if_icmp .gt 16, 3) := by decide +kernel
theorem dX10_densityAt_24 : decode cX10_densityAt 24 = .ok (.aload_n 0, 1) := by decide +kernel
theorem dX10_densityAt_25 : decode cX10_densityAt 25 = .ok (.getfield 15, 3) := by decide +kernel
theorem dX10_densityAt_28 : decode cX10_densityAt 28 = .ok (.iload_n 3, 1) := by decide +kernel
theorem dX10_densityAt_29 : decode cX10_densityAt 29 = .ok (.iaload, 1) := by decide +kernel
theorem dX10_densityAt_30 : decode cX10_densityAt 30 = .ok (.istore_n 2, 1) := by decide +kernel
theorem dX10_densityAt_31 : decode cX10_densityAt 31 = .ok (.iinc 3 1, 3) := by decide +kernel
theorem dX10_densityAt_34 : decode cX10_densityAt 34 = .ok (.goto (-28), 3) := by decide +kernel
theorem dX10_densityAt_37 : decode cX10_densityAt 37 = .ok (.iload_n 2, 1) := by decide +kernel
theorem dX10_densityAt_38 : decode cX10_densityAt 38 = .ok (.ireturn, 1) := by decide +kernel
theorem dX10_liftAt_0 : decode cX10_liftAt 0 = .ok (.aload_n 0, 1) := by decide +kernel
theorem dX10_liftAt_1 : decode cX10_liftAt 1 = .ok (.getfield 18, 3) := by decide +kernel
theorem dX10_liftAt_4 : decode cX10_liftAt 4 = .ok (.aload_n 0, 1) := by decide +kernel
theorem dX10_liftAt_5 : decode cX10_liftAt 5 = .ok (.getfield 25, 3) := by decide +kernel
theorem dX10_liftAt_8 : decode cX10_liftAt 8 = .ok (.iload_n 1, 1) := by decide +kernel
theorem dX10_liftAt_9 : decode cX10_liftAt 9 = .ok (.imul, 1) := by decide +kernel
theorem dX10_liftAt_10 : decode cX10_liftAt 10 = .ok (.bipush 10, 2) := by decide +kernel
theorem dX10_liftAt_12 : decode cX10_liftAt 12 = .ok (.idiv, 1) := by decide +kernel
theorem dX10_liftAt_13 : decode cX10_liftAt 13 = .ok (.isub, 1) := by decide +kernel
theorem dX10_liftAt_14 : decode cX10_liftAt 14 = .ok (.aload_n 0, 1) := by decide +kernel
theorem dX10_liftAt_15 : decode cX10_liftAt 15 = .ok (.iload_n 1, 1) := by decide +kernel
theorem dX10_liftAt_16 : decode cX10_liftAt 16 = .ok (.invokevirtual 28, 3) := by decide +kernel
theorem dX10_liftAt_19 : decode cX10_liftAt 19 = .ok (.imul, 1) := by decide +kernel
theorem dX10_liftAt_20 : decode cX10_liftAt 20 = .ok (.sipush 1000, 3) := by decide +kernel
theorem dX10_liftAt_23 : decode cX10_liftAt 23 = .ok (.idiv, 1) := by decide +kernel
theorem dX10_liftAt_24 : decode cX10_liftAt 24 = .ok (.ireturn, 1) := by decide +kernel
noncomputable def fX10_addLayer_33 (v1 : Int32) (v2 : Int32) (h : HS) : Option (Int32 × HS) := ck (inb (gI h 3 2) 6) (nm (pI h 33 (gI h 3 2).toNatClampNeg v1) (fun h5 => ck (inb (gI h5 3 2) 6) (nm (pI h5 34 (gI h5 3 2).toNatClampNeg v2) (fun h7 => nm (pI h7 3 2 ((gI h7 3 2) + (1 : Int32))) (fun h9 => some ((gI h9 3 2), h9))))))
set_option maxRecDepth 100000 in
theorem jX10_addLayer_33 {r : Int32} {h0 : HS} (v1 : Int32) (v2 : Int32) (h : HS) (H : fX10_addLayer_33 v1 v2 h = some (r, h0)) : Jx skC RX10 cX10_addLayer 3 (some .int) 0 (some (.int r)) h0 33 [some (.ref 3), some (.int v1), some (.int v2)] [] h := by
  unfold fX10_addLayer_33 at H
  refine j_aload_n (pc := 33) dX10_addLayer_33 rfl ?_
  refine j_getR (pc := 34) (b := 33) dX10_addLayer_34 flX10_9 rfl ?_
  refine j_aload_n (pc := 37) dX10_addLayer_37 rfl ?_
  refine j_getI (pc := 38) dX10_addLayer_38 flX10_22 rfl ?_
  refine j_iload_n (pc := 41) dX10_addLayer_41 rfl ?_
  obtain ⟨b6, H⟩ := ck_x H
  obtain ⟨h5, eh5, H⟩ := nm_x H
  refine j_iastore (pc := 42) dX10_addLayer_42 rfl b6 rfl h5 eh5 ?_
  refine j_aload_n (pc := 43) dX10_addLayer_43 rfl ?_
  refine j_getR (pc := 44) (b := 34) dX10_addLayer_44 flX10_15 rfl ?_
  refine j_aload_n (pc := 47) dX10_addLayer_47 rfl ?_
  refine j_getI (pc := 48) dX10_addLayer_48 flX10_22 rfl ?_
  refine j_iload_n (pc := 51) dX10_addLayer_51 rfl ?_
  obtain ⟨b8, H⟩ := ck_x H
  obtain ⟨h7, eh7, H⟩ := nm_x H
  refine j_iastore (pc := 52) dX10_addLayer_52 rfl b8 rfl h7 eh7 ?_
  refine j_aload_n (pc := 53) dX10_addLayer_53 rfl ?_
  refine j_dup (pc := 54) dX10_addLayer_54 rfl ?_
  refine j_getI (pc := 55) dX10_addLayer_55 flX10_22 rfl ?_
  refine j_iconst (pc := 58) (v := 1) dX10_addLayer_58 (by decide) ?_
  refine j_iadd (pc := 59) dX10_addLayer_59 ?_
  obtain ⟨h9, eh9, H⟩ := nm_x H
  refine j_putI (pc := 60) dX10_addLayer_60 fpX10_22 rfl h9 eh9 ?_
  refine j_aload_n (pc := 63) dX10_addLayer_63 rfl ?_
  refine j_getI (pc := 64) dX10_addLayer_64 flX10_22 rfl ?_
  exact j_ireturn (pc := 67) dX10_addLayer_67 rfl (ri_1 H) (ri_2 H)
noncomputable def fX10_addLayer (p1 : Int32) (p2 : Int32) (h : HS) : Option (Int32 × HS) := if (6 : Int32) ≤ (gI h 3 2) then (some ((-1 : Int32), h)) else (if (gI h 3 2) ≤ 0 then (fX10_addLayer_33 p1 p2 h) else (ck (inb ((gI h 3 2) - (1 : Int32)) 6) (if (gI h 33 ((gI h 3 2) - (1 : Int32)).toNatClampNeg) < p1 then (fX10_addLayer_33 p1 p2 h) else (some ((-1 : Int32), h)))))
set_option maxRecDepth 100000 in
theorem tX10_addLayer {p1 : Int32} {p2 : Int32} {r : Int32} {h h0 : HS} (H : fX10_addLayer p1 p2 h = some (r, h0)) : Cn skC yX10_addLayer cX10_addLayer 3 (some .int) 0 [.ref 3, .int p1, .int p2] h (some (.int r)) h0 := by
  refine Cn_of (L := [some (.ref 3), some (.int p1), some (.int p2)]) (by decide +kernel) (by simp [lg_sl, Value.category]) (fun ad => by simp [lg_sl, tv, Value.category]) (⟨rfl, ⟨rfl, ⟨rfl, trivial⟩⟩⟩) ?_
  unfold fX10_addLayer at H
  refine j_aload_n (pc := 0) dX10_addLayer_0 rfl ?_
  refine j_getI (pc := 1) dX10_addLayer_1 flX10_22 rfl ?_
  refine j_bipush (pc := 4) (v := 6) dX10_addLayer_4 (by decide) ?_
  refine j_icmp_ge (pc := 6) (tgt := 31) dX10_addLayer_6 (by decide) (fun c1 => ?_) (fun c1 => ?_)
  · rw [if_pos c1] at H
    refine j_iconst (pc := 31) (v := -1) dX10_addLayer_31 (by decide) ?_
    exact j_ireturn (pc := 32) dX10_addLayer_32 rfl (ri_1 H) (ri_2 H)
  · rw [if_neg c1] at H
    refine j_aload_n (pc := 9) dX10_addLayer_9 rfl ?_
    refine j_getI (pc := 10) dX10_addLayer_10 flX10_22 rfl ?_
    refine j_if_le (pc := 13) (tgt := 33) dX10_addLayer_13 (by decide) (fun c2 => ?_) (fun c2 => ?_)
    · rw [if_pos c2] at H
      refine Jx.sub (L' := [some (.ref 3), some (.int p1), some (.int p2)]) (⟨rfl, ⟨rfl, ⟨rfl, trivial⟩⟩⟩) ?_
      exact jX10_addLayer_33 p1 p2 h H
    · rw [if_neg c2] at H
      refine j_iload_n (pc := 16) dX10_addLayer_16 rfl ?_
      refine j_aload_n (pc := 17) dX10_addLayer_17 rfl ?_
      refine j_getR (pc := 18) (b := 33) dX10_addLayer_18 flX10_9 rfl ?_
      refine j_aload_n (pc := 21) dX10_addLayer_21 rfl ?_
      refine j_getI (pc := 22) dX10_addLayer_22 flX10_22 rfl ?_
      refine j_iconst (pc := 25) (v := 1) dX10_addLayer_25 (by decide) ?_
      refine j_isub (pc := 26) dX10_addLayer_26 ?_
      obtain ⟨b3, H⟩ := ck_x H
      refine j_iaload (pc := 27) dX10_addLayer_27 rfl b3 rfl ?_
      refine j_icmp_gt (pc := 28) (tgt := 33) dX10_addLayer_28 (by decide) (fun c4 => ?_) (fun c4 => ?_)
      · rw [if_pos c4] at H
        refine Jx.sub (L' := [some (.ref 3), some (.int p1), some (.int p2)]) (⟨rfl, ⟨rfl, ⟨rfl, trivial⟩⟩⟩) ?_
        exact jX10_addLayer_33 p1 p2 h H
      · rw [if_neg c4] at H
        refine j_iconst (pc := 31) (v := -1) dX10_addLayer_31 (by decide) ?_
        exact j_ireturn (pc := 32) dX10_addLayer_32 rfl (ri_1 H) (ri_2 H)

noncomputable def fX10_densityAt_6 : Nat → Int32 → Int32 → Int32 → HS → Option (Int32 × HS)
  | 0, _, _, _, _ => none
  | n + 1, v1, v2, v3, h => if (gI h 3 2) ≤ v3 then (some (v2, h)) else (ck (inb v3 6) (if v1 < (gI h 33 v3.toNatClampNeg) then (some (v2, h)) else (ck (inb v3 6) (nm ((gI h 34 v3.toNatClampNeg)) (fun v2_5 => nm (v3 + (1 : Int32)) (fun v3_6 => fX10_densityAt_6 n v1 v2_5 v3_6 h))))))
set_option maxRecDepth 100000 in
theorem jX10_densityAt_6 {r : Int32} {h0 : HS} : ∀ (n : Nat) (v1 : Int32) (v2 : Int32) (v3 : Int32) (h : HS), fX10_densityAt_6 n v1 v2 v3 h = some (r, h0) → Jx skC RX10 cX10_densityAt 4 (some .int) 0 (some (.int r)) h0 6 [some (.ref 3), some (.int v1), some (.int v2), some (.int v3)] [] h := by
  intro n
  induction n with
  | zero => intro v1 v2 v3  h H; cases H
  | succ n ih =>
    intro v1 v2 v3  h H
    rw [fX10_densityAt_6] at H
    refine j_iload_n (pc := 6) dX10_densityAt_6 rfl ?_
    refine j_aload_n (pc := 7) dX10_densityAt_7 rfl ?_
    refine j_getI (pc := 8) dX10_densityAt_8 flX10_22 rfl ?_
    refine j_icmp_ge (pc := 11) (tgt := 37) dX10_densityAt_11 (by decide) (fun c1 => ?_) (fun c1 => ?_)
    · rw [if_pos c1] at H
      refine j_iload_n (pc := 37) dX10_densityAt_37 rfl ?_
      exact j_ireturn (pc := 38) dX10_densityAt_38 rfl (ri_1 H) (ri_2 H)
    · rw [if_neg c1] at H
      refine j_aload_n (pc := 14) dX10_densityAt_14 rfl ?_
      refine j_getR (pc := 15) (b := 33) dX10_densityAt_15 flX10_9 rfl ?_
      refine j_iload_n (pc := 18) dX10_densityAt_18 rfl ?_
      obtain ⟨b2, H⟩ := ck_x H
      refine j_iaload (pc := 19) dX10_densityAt_19 rfl b2 rfl ?_
      refine j_iload_n (pc := 20) dX10_densityAt_20 rfl ?_
      refine j_icmp_gt (pc := 21) (tgt := 37) dX10_densityAt_21 (by decide) (fun c3 => ?_) (fun c3 => ?_)
      · rw [if_pos c3] at H
        refine j_iload_n (pc := 37) dX10_densityAt_37 rfl ?_
        exact j_ireturn (pc := 38) dX10_densityAt_38 rfl (ri_1 H) (ri_2 H)
      · rw [if_neg c3] at H
        refine j_aload_n (pc := 24) dX10_densityAt_24 rfl ?_
        refine j_getR (pc := 25) (b := 34) dX10_densityAt_25 flX10_15 rfl ?_
        refine j_iload_n (pc := 28) dX10_densityAt_28 rfl ?_
        obtain ⟨b4, H⟩ := ck_x H
        refine j_iaload (pc := 29) dX10_densityAt_29 rfl b4 rfl ?_
        obtain ⟨v2_5, ev2_5, H⟩ := nm_x H
        refine j_topi ev2_5 ?_
        refine j_istore_n (pc := 30) (L' := [some (.ref 3), some (.int v1), some (.int v2_5), some (.int v3)]) dX10_densityAt_30 (by decide) rfl ?_
        obtain ⟨v3_6, ev3_6, H⟩ := nm_x H
        refine j_iinc (pc := 31) (L' := [some (.ref 3), some (.int v1), some (.int v2_5), some (.int v3_6)]) (w := 1) dX10_densityAt_31 rfl (by decide) (by decide) v3_6 ev3_6 rfl ?_
        refine j_goto (pc := 34) (tgt := 6) dX10_densityAt_34 (by decide) ?_
        refine Jx.sub (L' := [some (.ref 3), some (.int v1), some (.int v2_5), some (.int v3_6)]) (⟨rfl, ⟨rfl, ⟨rfl, ⟨rfl, trivial⟩⟩⟩⟩) ?_
        exact ih v1 v2_5 v3_6 h H
noncomputable def fX10_densityAt (p1 : Int32) (h : HS) : Option (Int32 × HS) := fX10_densityAt_6 FU p1 (1000 : Int32) (0 : Int32) h
set_option maxRecDepth 100000 in
theorem tX10_densityAt {p1 : Int32} {r : Int32} {h h0 : HS} (H : fX10_densityAt p1 h = some (r, h0)) : Cn skC yX10_densityAt cX10_densityAt 4 (some .int) 0 [.ref 3, .int p1] h (some (.int r)) h0 := by
  refine Cn_of (L := [some (.ref 3), some (.int p1), none, none]) (by decide +kernel) (by simp [lg_sl, Value.category]) (fun ad => by simp [lg_sl, tv, Value.category]) (⟨rfl, ⟨rfl, trivial⟩⟩) ?_
  unfold fX10_densityAt at H
  refine j_sipush (pc := 0) (v := 1000) dX10_densityAt_0 (by decide) ?_
  refine j_istore_n (pc := 3) (L' := [some (.ref 3), some (.int p1), some (.int (1000 : Int32)), none]) dX10_densityAt_3 (by decide) rfl ?_
  refine j_iconst (pc := 4) (v := 0) dX10_densityAt_4 (by decide) ?_
  refine j_istore_n (pc := 5) (L' := [some (.ref 3), some (.int p1), some (.int (1000 : Int32)), some (.int (0 : Int32))]) dX10_densityAt_5 (by decide) rfl ?_
  refine Jx.sub (L' := [some (.ref 3), some (.int p1), some (.int (1000 : Int32)), some (.int (0 : Int32))]) (⟨rfl, ⟨rfl, ⟨rfl, ⟨rfl, trivial⟩⟩⟩⟩) ?_
  exact jX10_densityAt_6 FU p1 (1000 : Int32) (0 : Int32) h H

noncomputable def fX10_liftAt (p1 : Int32) (h : HS) : Option (Int32 × HS) := bd (fX10_densityAt p1 h) (fun r2 h1 => some (((((gI h 3 3) - (((gI h 3 4) * p1) / (10 : Int32))) * r2) / (1000 : Int32)), h1))
set_option maxRecDepth 100000 in
theorem tX10_liftAt {p1 : Int32} {r : Int32} {h h0 : HS} (H : fX10_liftAt p1 h = some (r, h0)) : Cn skC yX10_liftAt cX10_liftAt 2 (some .int) 1 [.ref 3, .int p1] h (some (.int r)) h0 := by
  refine Cn_of (L := [some (.ref 3), some (.int p1)]) (by decide +kernel) (by simp [lg_sl, Value.category]) (fun ad => by simp [lg_sl, tv, Value.category]) (⟨rfl, ⟨rfl, trivial⟩⟩) ?_
  unfold fX10_liftAt at H
  refine j_aload_n (pc := 0) dX10_liftAt_0 rfl ?_
  refine j_getI (pc := 1) dX10_liftAt_1 flX10_18 rfl ?_
  refine j_aload_n (pc := 4) dX10_liftAt_4 rfl ?_
  refine j_getI (pc := 5) dX10_liftAt_5 flX10_25 rfl ?_
  refine j_iload_n (pc := 8) dX10_liftAt_8 rfl ?_
  refine j_imul (pc := 9) dX10_liftAt_9 ?_
  refine j_bipush (pc := 10) (v := 10) dX10_liftAt_10 (by decide) ?_
  refine j_idiv (pc := 12) dX10_liftAt_12 (by decide) ?_
  refine j_isub (pc := 13) dX10_liftAt_13 ?_
  refine j_aload_n (pc := 14) dX10_liftAt_14 rfl ?_
  refine j_iload_n (pc := 15) dX10_liftAt_15 rfl ?_
  obtain ⟨r2, h1, eh1, H⟩ := bd_x H
  refine j_callV (pc := 16) dX10_liftAt_16 mlX10_28 wyX10_densityAt (tX10_densityAt eh1) (by decide) rfl rfl rfl rfl (by simp [Value.category]) rfl ?_
  refine j_imul (pc := 19) dX10_liftAt_19 ?_
  refine j_sipush (pc := 20) (v := 1000) dX10_liftAt_20 (by decide) ?_
  refine j_idiv (pc := 23) dX10_liftAt_23 (by decide) ?_
  exact j_ireturn (pc := 24) dX10_liftAt_24 rfl (ri_1 H) (ri_2 H)
