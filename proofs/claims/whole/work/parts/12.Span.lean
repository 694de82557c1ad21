theorem dX7_reset_0 : decode cX7_reset 0 = .ok (.aload_n 0, 1) := by decide +kernel
theorem dX7_reset_1 : decode cX7_reset 1 = .ok (.lload_n 1, 1) := by decide +kernel
theorem dX7_reset_2 : decode cX7_reset 2 = .ok (.putfield 7, 3) := by decide +kernel
theorem dX7_reset_5 : decode cX7_reset 5 = .ok (.aload_n 0, 1) := by decide +kernel
theorem dX7_reset_6 : decode cX7_reset 6 = .ok (.lload_n 3, 1) := by decide +kernel
theorem dX7_reset_7 : decode cX7_reset 7 = .ok (.putfield 13, 3) := by decide +kernel
theorem dX7_reset_10 : decode cX7_reset 10 = .ok (.return_, 1) := by decide +kernel
theorem dX7_narrow_0 : decode cX7_narrow 0 = .ok (.lload_n 3, 1) := by decide +kernel
theorem dX7_narrow_1 : decode cX7_narrow 1 = .ok (.lconst 0, 1) := by decide +kernel
theorem dX7_narrow_2 : decode cX7_narrow 2 = .ok (.lcmp, 1) := by decide +kernel
theorem dX7_narrow_3 : decode cX7_narrow 3 = .ok (.ifCond .ne 26, 3) := by decide +kernel
theorem dX7_narrow_6 : decode cX7_narrow 6 = .ok (.lload_n 1, 1) := by decide +kernel
theorem dX7_narrow_7 : decode cX7_narrow 7 = .ok (.lload 5, 2) := by decide +kernel
theorem dX7_narrow_9 : decode cX7_narrow 9 = .ok (.lcmp, 1) := by decide +kernel
theorem dX7_narrow_10 : decode cX7_narrow 10 = .ok (.ifCond .lt 10, 3) := by decide +kernel
theorem dX7_narrow_13 : decode cX7_narrow 13 = .ok (.lload_n 1, 1) := by decide +kernel
theorem dX7_narrow_14 : decode cX7_narrow 14 = .ok (.lload 7, 2) := by decide +kernel
theorem dX7_narrow_16 : decode cX7_narrow 16 = .ok (.lcmp, 1) := by decide +kernel
theorem dX7_narrow_17 : decode cX7_narrow 17 = .ok (.ifCond .le 11, 3) := by decide +kernel
theorem dX7_narrow_20 : decode cX7_narrow 20 = .ok (.aload_n 0, 1) := by decide +kernel
theorem dX7_narrow_21 : decode cX7_narrow 21 = .ok (.lconst 0, 1) := by decide +kernel
theorem dX7_narrow_22 : decode cX7_narrow 22 = .ok (.ldc2_w 20, 3) := by decide +kernel
theorem dX7_narrow_25 : decode cX7_narrow 25 = .ok (.invokevirtual 22, 3) := by decide +kernel
theorem dX7_narrow_28 : decode cX7_narrow 28 = .ok (.return_, 1) := by decide +kernel
theorem dX7_narrow_29 : decode cX7_narrow 29 = .ok (.lload_n 3, 1) := by decide +kernel
theorem dX7_narrow_30 : decode cX7_narrow 30 = .ok (.invokestatic 26, 3) := by decide +kernel
theorem dX7_narrow_33 : decode cX7_narrow 33 = .ok (.lstore 9, 2) := by decide +kernel
theorem dX7_narrow_35 : decode cX7_narrow 35 = .ok (.lload_n 3, 1) := by decide +kernel
theorem dX7_narrow_36 : decode cX7_narrow 36 = .ok (.lconst 0, 1) := by decide +kernel
theorem dX7_narrow_37 : decode cX7_narrow 37 = .ok (.lcmp, 1) := by decide +kernel
theorem dX7_narrow_38 : decode cX7_narrow 38 = .ok (.ifCond .le 10, 3) := by decide +kernel
theorem dX7_narrow_41 : decode cX7_narrow 41 = .ok (.lload 5, 2) := by decide +kernel
theorem dX7_narrow_43 : decode cX7_narrow 43 = .ok (.lload_n 1, 1) := by decide +kernel
theorem dX7_narrow_44 : decode cX7_narrow 44 = .ok (.lsub, 1) := by decide +kernel
theorem dX7_narrow_45 : decode cX7_narrow 45 = .ok (.goto 7, 3) := by decide +kernel
theorem dX7_narrow_48 : decode cX7_narrow 48 = .ok (.lload_n 1, 1) := by decide +kernel
theorem dX7_narrow_49 : decode cX7_narrow 49 = .ok (.lload 7, 2) := by decide +kernel
theorem dX7_narrow_51 : decode cX7_narrow 51 = .ok (.lsub, 1) := by decide +kernel
theorem dX7_narrow_52 : decode cX7_narrow 52 = .ok (.lstore 11, 2) := by decide +kernel
theorem dX7_narrow_54 : decode cX7_narrow 54 = .ok (.lload_n 3, 1) := by decide +kernel
theorem dX7_narrow_55 : decode cX7_narrow 55 = .ok (.lconst 0, 1) := by decide +kernel
theorem dX7_narrow_56 : decode cX7_narrow 56 = .ok (.lcmp, 1) := by decide +kernel
theorem dX7_narrow_57 : decode cX7_narrow 57 = .ok (.ifCond .le 10, 3) := by decide +kernel
theorem dX7_narrow_60 : decode cX7_narrow 60 = .ok (.lload 7, 2) := by decide +kernel
theorem dX7_narrow_62 : decode cX7_narrow 62 = .ok (.lload_n 1, 1) := by decide +kernel
theorem dX7_narrow_63 : decode cX7_narrow 63 = .ok (.lsub, 1) := by decide +kernel
theorem dX7_narrow_64 : decode cX7_narrow 64 = .ok (.goto 7, 3) := by decide +kernel
theorem dX7_narrow_67 : decode cX7_narrow 67 = .ok (.lload_n 1, 1) := by decide +kernel
theorem dX7_narrow_68 : decode cX7_narrow 68 = .ok (.lload 5, 2) := by decide +kernel
theorem dX7_narrow_70 : decode cX7_narrow 70 = .ok (.lsub, 1) := by decide +kernel
theorem dX7_narrow_71 : decode cX7_narrow 71 = .ok (.lstore 13, 2) := by decide +kernel
theorem dX7_narrow_73 : decode cX7_narrow 73 = .ok (.aload_n 0, 1) := by decide +kernel
theorem dX7_narrow_74 : decode cX7_narrow 74 = .ok (.aload_n 0, 1) := by decide +kernel
theorem dX7_narrow_75 : decode cX7_narrow 75 = .ok (.getfield 7, 3) := by decide +kernel
theorem dX7_narrow_78 : decode cX7_narrow 78 = .ok (.lload 11, 2) := by decide +kernel
theorem dX7_narrow_80 : decode cX7_narrow 80 = .ok (.lneg, 1) := by decide +kernel
theorem dX7_narrow_81 : decode cX7_narrow 81 = .ok (.lload 9, 2) := by decide +kernel
theorem dX7_narrow_83 : decode cX7_narrow 83 = .ok (.invokestatic 32, 3) := by decide +kernel
theorem dX7_narrow_86 : decode cX7_narrow 86 = .ok (.lneg, 1) := by decide +kernel
theorem dX7_narrow_87 : decode cX7_narrow 87 = .ok (.invokestatic 36, 3) := by decide +kernel
theorem dX7_narrow_90 : decode cX7_narrow 90 = .ok (.putfield 7, 3) := by decide +kernel
theorem dX7_narrow_93 : decode cX7_narrow 93 = .ok (.aload_n 0, 1) := by decide +kernel
theorem dX7_narrow_94 : decode cX7_narrow 94 = .ok (.aload_n 0, 1) := by decide +kernel
theorem dX7_narrow_95 : decode cX7_narrow 95 = .ok (.getfield 13, 3) := by decide +kernel
theorem dX7_narrow_98 : decode cX7_narrow 98 = .ok (.lload 13, 2) := by decide +kernel
theorem dX7_narrow_100 : decode cX7_narrow 100 = .ok (.lload 9, 2) := by decide +kernel
theorem dX7_narrow_102 : decode cX7_narrow 102 = .ok (.invokestatic 32, 3) := by decide +kernel
theorem dX7_narrow_105 : decode cX7_narrow 105 = .ok (.invokestatic 39, 3) := by decide +kernel
theorem dX7_narrow_108 : decode cX7_narrow 108 = .ok (.putfield 13, 3) := by decide +kernel
theorem dX7_narrow_111 : decode cX7_narrow 111 = .ok (.return_, 1) := by decide +kernel
theorem dX7_fix_0 : decode cX7_fix 0 = .ok (.aload_n 0, 1) := by decide +kernel
theorem dX7_fix_1 : decode cX7_fix 1 = .ok (.lload_n 1, 1) := by decide +kernel
theorem dX7_fix_2 : decode cX7_fix 2 = .ok (.lload_n 3, 1) := by decide +kernel
theorem dX7_fix_3 : decode cX7_fix 3 = .ok (.lload 5, 2) := by decide +kernel
theorem dX7_fix_5 : decode cX7_fix 5 = .ok (.lload 5, 2) := by decide +kernel
theorem dX7_fix_7 : decode cX7_fix 7 = .ok (.invokevirtual 16, 3) := by decide +kernel
theorem dX7_fix_10 : decode cX7_fix 10 = .ok (.return_, 1) := by decide +kernel
theorem dX7_isEmpty_0 : decode cX7_isEmpty 0 = .ok (.aload_n 0, 1) := by decide +kernel
theorem dX7_isEmpty_1 : decode cX7_isEmpty 1 = .ok (.getfield 7, 3) := by decide +kernel
theorem dX7_isEmpty_4 : decode cX7_isEmpty 4 = .ok (.aload_n 0, 1) := by decide +kernel
theorem dX7_isEmpty_5 : decode cX7_isEmpty 5 = .ok (.getfield 13, 3) := by decide +kernel
theorem dX7_isEmpty_8 : decode cX7_isEmpty 8 = .ok (.lcmp, 1) := by decide +kernel
theorem dX7_isEmpty_9 : decode cX7_isEmpty 9 = .ok (.ifCond .le 7, 3) := by decide +kernel
theorem dX7_isEmpty_12 : decode cX7_isEmpty 12 = .ok (.iconst 1, 1) := by decide +kernel
theorem dX7_isEmpty_13 : decode cX7_isEmpty 13 = .ok (.goto 4, 3) := by decide +kernel
theorem dX7_isEmpty_16 : decode cX7_isEmpty 16 = .ok (.iconst 0, 1) := by decide +kernel
theorem dX7_isEmpty_17 : decode cX7_isEmpty 17 = .ok (.ireturn, 1) := by decide +kernel
noncomputable def fX7_reset (a : Nat) (p1 : Int64) (p2 : Int64) (h : HS) : Option HS := nm (pL h a 0 p1) (fun h1 => nm (pL h1 a 1 p2) (fun h2 => some h2))
set_option maxRecDepth 100000 in
theorem tX7_reset {a : Nat} {p1 : Int64} {p2 : Int64} {h h0 : HS} (ha : skC[a]? = some (0, 7, [1, 1])) (H : fX7_reset a p1 p2 h = some h0) : Cn skC yX7_reset cX7_reset 5 none 0 [.ref a, .long p1, .long p2] h none h0 := by
  refine Cn_of (L := [some (.ref a), some (.long p1), none, some (.long p2), none]) (by decide +kernel) (by simp [lg_sl, Value.category]) (fun ad => by simp [lg_sl, tv, Value.category]) (⟨rfl, ⟨rfl, ⟨rfl, trivial⟩⟩⟩) ?_
  unfold fX7_reset at H
  refine j_aload_n (pc := 0) dX7_reset_0 rfl ?_
  refine j_lload_n (pc := 1) dX7_reset_1 rfl ?_
  obtain ⟨h1, eh1, H⟩ := nm_x H
  refine j_putL (pc := 2) dX7_reset_2 fpX7_7 (fk_at ha rfl) h1 eh1 ?_
  refine j_aload_n (pc := 5) dX7_reset_5 rfl ?_
  refine j_lload_n (pc := 6) dX7_reset_6 rfl ?_
  obtain ⟨h2, eh2, H⟩ := nm_x H
  refine j_putL (pc := 7) dX7_reset_7 fpX7_13 (fk_at ha rfl) h2 eh2 ?_
  exact j_return (pc := 10) dX7_reset_10 rfl rfl (rv_2 H)

noncomputable def fX7_narrow_71 (a : Nat) (v9 : Int64) (v11 : Int64) (s0 : Int64) (h : HS) : Option HS := ck (nzL v9) (nm (pL h a 0 (lmax (gL h a 0) (-(lfd (-v11) v9)))) (fun h9 => ck (nzL v9) (nm (pL h9 a 1 (lmin (gL h9 a 1) (lfd s0 v9))) (fun h11 => some h11))))
set_option maxRecDepth 100000 in
theorem jX7_narrow_71 {a : Nat} {h0 : HS} (ha : skC[a]? = some (0, 7, [1, 1])) (v9 : Int64) (v11 : Int64) (s0 : Int64) (h : HS) (H : fX7_narrow_71 a v9 v11 s0 h = some h0) : Jx skC RX7 cX7_narrow 15 none 1 none h0 71 [some (.ref a), none, none, none, none, none, none, none, none, some (.long v9), none, some (.long v11), none, none, none] [.long s0] h := by
  unfold fX7_narrow_71 at H
  refine j_lstore (pc := 71) (L' := [some (.ref a), none, none, none, none, none, none, none, none, some (.long v9), none, some (.long v11), none, some (.long s0), none]) dX7_narrow_71 (by decide) rfl ?_
  refine j_aload_n (pc := 73) dX7_narrow_73 rfl ?_
  refine j_aload_n (pc := 74) dX7_narrow_74 rfl ?_
  refine j_getL (pc := 75) dX7_narrow_75 flX7_7 (fk_at ha rfl) ?_
  refine j_lload (pc := 78) dX7_narrow_78 rfl ?_
  refine j_lneg (pc := 80) dX7_narrow_80 ?_
  refine j_lload (pc := 81) dX7_narrow_81 rfl ?_
  obtain ⟨b8, H⟩ := ck_x H
  refine j_fdiv (pc := 83) dX7_narrow_83 wmX7_32 (nzL_x b8) (by simp [Value.category]) ?_
  refine j_lneg (pc := 86) dX7_narrow_86 ?_
  refine j_mmaxL (pc := 87) dX7_narrow_87 wmX7_36 (by simp [Value.category]) ?_
  obtain ⟨h9, eh9, H⟩ := nm_x H
  refine j_putL (pc := 90) dX7_narrow_90 fpX7_7 (fk_at ha rfl) h9 eh9 ?_
  refine j_aload_n (pc := 93) dX7_narrow_93 rfl ?_
  refine j_aload_n (pc := 94) dX7_narrow_94 rfl ?_
  refine j_getL (pc := 95) dX7_narrow_95 flX7_13 (fk_at ha rfl) ?_
  refine j_lload (pc := 98) dX7_narrow_98 rfl ?_
  refine j_lload (pc := 100) dX7_narrow_100 rfl ?_
  obtain ⟨b10, H⟩ := ck_x H
  refine j_fdiv (pc := 102) dX7_narrow_102 wmX7_32 (nzL_x b10) (by simp [Value.category]) ?_
  refine j_mminL (pc := 105) dX7_narrow_105 wmX7_39 (by simp [Value.category]) ?_
  obtain ⟨h11, eh11, H⟩ := nm_x H
  refine j_putL (pc := 108) dX7_narrow_108 fpX7_13 (fk_at ha rfl) h11 eh11 ?_
  exact j_return (pc := 111) dX7_narrow_111 rfl rfl (rv_2 H)
noncomputable def fX7_narrow_52 (a : Nat) (v1 : Int64) (v3 : Int64) (v5 : Int64) (v7 : Int64) (v9 : Int64) (s0 : Int64) (h : HS) : Option HS := if (lg_cmp v3 (0 : Int64)) ≤ 0 then (fX7_narrow_71 a v9 s0 ((v1 - v5)) h) else (fX7_narrow_71 a v9 s0 ((v7 - v1)) h)
set_option maxRecDepth 100000 in
theorem jX7_narrow_52 {a : Nat} {h0 : HS} (ha : skC[a]? = some (0, 7, [1, 1])) (v1 : Int64) (v3 : Int64) (v5 : Int64) (v7 : Int64) (v9 : Int64) (s0 : Int64) (h : HS) (H : fX7_narrow_52 a v1 v3 v5 v7 v9 s0 h = some h0) : Jx skC RX7 cX7_narrow 15 none 1 none h0 52 [some (.ref a), some (.long v1), none, some (.long v3), none, some (.long v5), none, some (.long v7), none, some (.long v9), none, none, none, none, none] [.long s0] h := by
  unfold fX7_narrow_52 at H
  refine j_lstore (pc := 52) (L' := [some (.ref a), some (.long v1), none, some (.long v3), none, some (.long v5), none, some (.long v7), none, some (.long v9), none, some (.long s0), none, none, none]) dX7_narrow_52 (by decide) rfl ?_
  refine j_lload_n (pc := 54) dX7_narrow_54 rfl ?_
  refine j_lconst (pc := 55) (v := 0) dX7_narrow_55 (by decide) ?_
  refine j_lcmp (pc := 56) dX7_narrow_56 ?_
  refine j_if_le (pc := 57) (tgt := 67) dX7_narrow_57 (by decide) (fun c6 => ?_) (fun c6 => ?_)
  · rw [if_pos c6] at H
    refine j_lload_n (pc := 67) dX7_narrow_67 rfl ?_
    refine j_lload (pc := 68) dX7_narrow_68 rfl ?_
    refine j_lsub (pc := 70) dX7_narrow_70 ?_
    refine Jx.sub (L' := [some (.ref a), none, none, none, none, none, none, none, none, some (.long v9), none, some (.long s0), none, none, none]) (⟨rfl, ⟨rfl, ⟨rfl, trivial⟩⟩⟩) ?_
    exact jX7_narrow_71 ha v9 s0 ((v1 - v5)) h H
  · rw [if_neg c6] at H
    refine j_lload (pc := 60) dX7_narrow_60 rfl ?_
    refine j_lload_n (pc := 62) dX7_narrow_62 rfl ?_
    refine j_lsub (pc := 63) dX7_narrow_63 ?_
    refine j_goto (pc := 64) (tgt := 71) dX7_narrow_64 (by decide) ?_
    refine Jx.sub (L' := [some (.ref a), none, none, none, none, none, none, none, none, some (.long v9), none, some (.long s0), none, none, none]) (⟨rfl, ⟨rfl, ⟨rfl, trivial⟩⟩⟩) ?_
    exact jX7_narrow_71 ha v9 s0 ((v7 - v1)) h H
noncomputable def fX7_narrow_20 (a : Nat) (h : HS) : Option HS := bv (fX7_reset a (0 : Int64) (-1 : Int64) h) (fun h7 => some h7)
set_option maxRecDepth 100000 in
theorem jX7_narrow_20 {a : Nat} {h0 : HS} (ha : skC[a]? = some (0, 7, [1, 1])) (h : HS) (H : fX7_narrow_20 a h = some h0) : Jx skC RX7 cX7_narrow 15 none 1 none h0 20 [some (.ref a), none, none, none, none, none, none, none, none, none, none, none, none, none, none] [] h := by
  unfold fX7_narrow_20 at H
  refine j_aload_n (pc := 20) dX7_narrow_20 rfl ?_
  refine j_lconst (pc := 21) (v := 0) dX7_narrow_21 (by decide) ?_
  refine j_ldc2 (pc := 22) dX7_narrow_22 wkX7_20 ?_
  obtain ⟨h7, eh7, H⟩ := bv_x H
  refine j_callV (pc := 25) dX7_narrow_25 mlX7_22 wyX7_reset (tX7_reset ha eh7) (by decide) ha rfl rfl rfl (by simp [Value.category]) rfl ?_
  exact j_return (pc := 28) dX7_narrow_28 rfl rfl (rv_2 H)
noncomputable def fX7_narrow (a : Nat) (p1 : Int64) (p2 : Int64) (p3 : Int64) (p4 : Int64) (h : HS) : Option HS := if (lg_cmp p2 (0 : Int64)) = 0 then (if (lg_cmp p1 p3) < 0 then (fX7_narrow_20 a h) else (if (lg_cmp p1 p4) ≤ 0 then (some h) else (fX7_narrow_20 a h))) else (nm ((labs p2)) (fun v9_2 => if (lg_cmp p2 (0 : Int64)) ≤ 0 then (fX7_narrow_52 a p1 p2 p3 p4 v9_2 ((p1 - p4)) h) else (fX7_narrow_52 a p1 p2 p3 p4 v9_2 ((p3 - p1)) h)))
set_option maxRecDepth 100000 in
theorem tX7_narrow {a : Nat} {p1 : Int64} {p2 : Int64} {p3 : Int64} {p4 : Int64} {h h0 : HS} (ha : skC[a]? = some (0, 7, [1, 1])) (H : fX7_narrow a p1 p2 p3 p4 h = some h0) : Cn skC yX7_narrow cX7_narrow 15 none 1 [.ref a, .long p1, .long p2, .long p3, .long p4] h none h0 := by
  refine Cn_of (L := [some (.ref a), some (.long p1), none, some (.long p2), none, some (.long p3), none, some (.long p4), none, none, none, none, none, none, none]) (by decide +kernel) (by simp [lg_sl, Value.category]) (fun ad => by simp [lg_sl, tv, Value.category]) (⟨rfl, ⟨rfl, ⟨rfl, ⟨rfl, ⟨rfl, trivial⟩⟩⟩⟩⟩) ?_
  unfold fX7_narrow at H
  refine j_lload_n (pc := 0) dX7_narrow_0 rfl ?_
  refine j_lconst (pc := 1) (v := 0) dX7_narrow_1 (by decide) ?_
  refine j_lcmp (pc := 2) dX7_narrow_2 ?_
  refine j_if_ne (pc := 3) (tgt := 29) dX7_narrow_3 (by decide) (fun c1 => ?_) (fun c1 => ?_)
  · rw [if_neg c1] at H
    refine j_lload_n (pc := 29) dX7_narrow_29 rfl ?_
    refine j_mabsL (pc := 30) dX7_narrow_30 wmX7_26 (by simp [Value.category]) ?_
    obtain ⟨v9_2, ev9_2, H⟩ := nm_x H
    refine j_topl ev9_2 ?_
    refine j_lstore (pc := 33) (L' := [some (.ref a), some (.long p1), none, some (.long p2), none, some (.long p3), none, some (.long p4), none, some (.long v9_2), none, none, none, none, none]) dX7_narrow_33 (by decide) rfl ?_
    refine j_lload_n (pc := 35) dX7_narrow_35 rfl ?_
    refine j_lconst (pc := 36) (v := 0) dX7_narrow_36 (by decide) ?_
    refine j_lcmp (pc := 37) dX7_narrow_37 ?_
    refine j_if_le (pc := 38) (tgt := 48) dX7_narrow_38 (by decide) (fun c3 => ?_) (fun c3 => ?_)
    · rw [if_pos c3] at H
      refine j_lload_n (pc := 48) dX7_narrow_48 rfl ?_
      refine j_lload (pc := 49) dX7_narrow_49 rfl ?_
      refine j_lsub (pc := 51) dX7_narrow_51 ?_
      refine Jx.sub (L' := [some (.ref a), some (.long p1), none, some (.long p2), none, some (.long p3), none, some (.long p4), none, some (.long v9_2), none, none, none, none, none]) (⟨rfl, ⟨rfl, ⟨rfl, ⟨rfl, ⟨rfl, ⟨rfl, trivial⟩⟩⟩⟩⟩⟩) ?_
      exact jX7_narrow_52 ha p1 p2 p3 p4 v9_2 ((p1 - p4)) h H
    · rw [if_neg c3] at H
      refine j_lload (pc := 41) dX7_narrow_41 rfl ?_
      refine j_lload_n (pc := 43) dX7_narrow_43 rfl ?_
      refine j_lsub (pc := 44) dX7_narrow_44 ?_
      refine j_goto (pc := 45) (tgt := 52) dX7_narrow_45 (by decide) ?_
      refine Jx.sub (L' := [some (.ref a), some (.long p1), none, some (.long p2), none, some (.long p3), none, some (.long p4), none, some (.long v9_2), none, none, none, none, none]) (⟨rfl, ⟨rfl, ⟨rfl, ⟨rfl, ⟨rfl, ⟨rfl, trivial⟩⟩⟩⟩⟩⟩) ?_
      exact jX7_narrow_52 ha p1 p2 p3 p4 v9_2 ((p3 - p1)) h H
  · rw [if_pos c1] at H
    refine j_lload_n (pc := 6) dX7_narrow_6 rfl ?_
    refine j_lload (pc := 7) dX7_narrow_7 rfl ?_
    refine j_lcmp (pc := 9) dX7_narrow_9 ?_
    refine j_if_lt (pc := 10) (tgt := 20) dX7_narrow_10 (by decide) (fun c4 => ?_) (fun c4 => ?_)
    · rw [if_pos c4] at H
      refine Jx.sub (L' := [some (.ref a), none, none, none, none, none, none, none, none, none, none, none, none, none, none]) (⟨rfl, trivial⟩) ?_
      exact jX7_narrow_20 ha h H
    · rw [if_neg c4] at H
      refine j_lload_n (pc := 13) dX7_narrow_13 rfl ?_
      refine j_lload (pc := 14) dX7_narrow_14 rfl ?_
      refine j_lcmp (pc := 16) dX7_narrow_16 ?_
      refine j_if_le (pc := 17) (tgt := 28) dX7_narrow_17 (by decide) (fun c5 => ?_) (fun c5 => ?_)
      · rw [if_pos c5] at H
        exact j_return (pc := 28) dX7_narrow_28 rfl rfl (rv_2 H)
      · rw [if_neg c5] at H
        refine Jx.sub (L' := [some (.ref a), none, none, none, none, none, none, none, none, none, none, none, none, none, none]) (⟨rfl, trivial⟩) ?_
        exact jX7_narrow_20 ha h H

noncomputable def fX7_fix (a : Nat) (p1 : Int64) (p2 : Int64) (p3 : Int64) (h : HS) : Option HS := bv (fX7_narrow a p1 p2 p3 p3 h) (fun h1 => some h1)
set_option maxRecDepth 100000 in
theorem tX7_fix {a : Nat} {p1 : Int64} {p2 : Int64} {p3 : Int64} {h h0 : HS} (ha : skC[a]? = some (0, 7, [1, 1])) (H : fX7_fix a p1 p2 p3 h = some h0) : Cn skC yX7_fix cX7_fix 7 none 2 [.ref a, .long p1, .long p2, .long p3] h none h0 := by
  refine Cn_of (L := [some (.ref a), some (.long p1), none, some (.long p2), none, some (.long p3), none]) (by decide +kernel) (by simp [lg_sl, Value.category]) (fun ad => by simp [lg_sl, tv, Value.category]) (⟨rfl, ⟨rfl, ⟨rfl, ⟨rfl, trivial⟩⟩⟩⟩) ?_
  unfold fX7_fix at H
  refine j_aload_n (pc := 0) dX7_fix_0 rfl ?_
  refine j_lload_n (pc := 1) dX7_fix_1 rfl ?_
  refine j_lload_n (pc := 2) dX7_fix_2 rfl ?_
  refine j_lload (pc := 3) dX7_fix_3 rfl ?_
  refine j_lload (pc := 5) dX7_fix_5 rfl ?_
  obtain ⟨h1, eh1, H⟩ := bv_x H
  refine j_callV (pc := 7) dX7_fix_7 mlX7_16 wyX7_narrow (tX7_narrow ha eh1) (by decide) ha rfl rfl rfl (by simp [Value.category]) rfl ?_
  exact j_return (pc := 10) dX7_fix_10 rfl rfl (rv_2 H)

noncomputable def fX7_isEmpty (a : Nat) (h : HS) : Option (Int32 × HS) := if (lg_cmp (gL h a 0) (gL h a 1)) ≤ 0 then (some ((0 : Int32), h)) else (some ((1 : Int32), h))
set_option maxRecDepth 100000 in
theorem tX7_isEmpty {a : Nat} {r : Int32} {h h0 : HS} (ha : skC[a]? = some (0, 7, [1, 1])) (H : fX7_isEmpty a h = some (r, h0)) : Cn skC yX7_isEmpty cX7_isEmpty 1 (some .boolean) 0 [.ref a] h (some (.int r)) h0 := by
  refine Cn_of (L := [some (.ref a)]) (by decide +kernel) (by simp [lg_sl, Value.category]) (fun ad => by simp [lg_sl, tv, Value.category]) (⟨rfl, trivial⟩) ?_
  unfold fX7_isEmpty at H
  refine j_aload_n (pc := 0) dX7_isEmpty_0 rfl ?_
  refine j_getL (pc := 1) dX7_isEmpty_1 flX7_7 (fk_at ha rfl) ?_
  refine j_aload_n (pc := 4) dX7_isEmpty_4 rfl ?_
  refine j_getL (pc := 5) dX7_isEmpty_5 flX7_13 (fk_at ha rfl) ?_
  refine j_lcmp (pc := 8) dX7_isEmpty_8 ?_
  refine j_if_le (pc := 9) (tgt := 16) dX7_isEmpty_9 (by decide) (fun c1 => ?_) (fun c1 => ?_)
  · rw [if_pos c1] at H
    refine j_iconst (pc := 16) (v := 0) dX7_isEmpty_16 (by decide) ?_
    exact j_zreturn (pc := 17) dX7_isEmpty_17 rfl (rz0 H) (ri_2 H)
  · rw [if_neg c1] at H
    refine j_iconst (pc := 12) (v := 1) dX7_isEmpty_12 (by decide) ?_
    refine j_goto (pc := 13) (tgt := 17) dX7_isEmpty_13 (by decide) ?_
    exact j_zreturn (pc := 17) dX7_isEmpty_17 rfl (rz1 H) (ri_2 H)
