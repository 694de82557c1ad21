section LOA
variable {hc hm : HS}
theorem op_load (H : RR hc hm) (p1 p2 p3 p4 p5 : Int32) : OK2 (fX11_load p1 p2 p3 p4 p5 hc) (fX12_load p1 p2 p3 p4 p5 hm) := by
  have H2 := RR_thrown 0 H
  have h15 := RR_15 H
  simp only [fX11_load, fX11_load_35, fX11_load_36, fX12_load, f_between, f_in, bd_s, nm_e1, if10s, if_true, show ¬ (1 : Int32) = 0 by decide, if_false]
  refine OK2_if (fun c1 => OK2_if (fun c2 => OK2_if (fun c3 => OK2_if (fun c4 => OK2_if (fun c5 => ?_) (fun _ => OK2_c H2)) (fun _ => OK2_c H2)) (fun _ => OK2_c H2)) (fun _ => OK2_c H2)) (fun _ => OK2_c H2)
  have eM : gI (pI hm 0 22 0) 0 0 = nI (nLd hm) := RR_eM H2
  have e15 : (15 : Int32) = nI 15 := by decide
  by_cases cn : nLd hm = 15
  · unfold fX4_add
    rw [eM, RR_eC H, cn, if_neg (by decide), if_pos (by decide), bd_s]
    exact OK2_c H2
  · have hn : nLd hm < 15 := by omega
    have eC : fX4_add p1 p2 p3 p4 p5 hc = if p1 = 0 then bv (fX4_placeTank (nI (nLd hm)) (pI (pI (pI (pI (pI hc 26 (nLd hm) p1) 27 (nLd hm) p2) 28 (nLd hm) p3) 29 (nLd hm) p4) 30 (nLd hm) p5)) (fun h13 => fX4_add_75 h13) else fX4_add_75 (pI (pI (pI (pI (pI hc 26 (nLd hm) p1) 27 (nLd hm) p2) 28 (nLd hm) p3) 29 (nLd hm) p4) 30 (nLd hm) p5) := by
      unfold fX4_add
      rw [RR_eC H, if_pos (by rw [e15]; exact nI_lt hn (by omega))]
      have g1 : ∀ h a j v, gI h 2 8 = nI (nLd hm) → ¬ a = 2 → gI (pI h a j v) 2 8 = nI (nLd hm) := fun h a j v hh ha => by rw [gI_pI, if_neg (fun z => ha z.1.symm)]; exact hh
      have q0 := RR_eC H
      have q1 := g1 hc 26 (nLd hm) p1 q0 (by decide)
      have q2 := g1 _ 27 (nLd hm) p2 q1 (by decide)
      have q3 := g1 _ 28 (nLd hm) p3 q2 (by decide)
      have q4 := g1 _ 29 (nLd hm) p4 q3 (by decide)
      have q5 := g1 _ 30 (nLd hm) p5 q4 (by decide)
      simp only [inb_n hn (show 15 < 2 ^ 31 by omega), ck_t, nI_clamp (show nLd hm < 2 ^ 31 by omega), nm_e1, q1, q2, q3, q4, q5]
    have n15 : ¬ nI (nLd hm) = 15 := fun z => cn ((nI_eq (by omega) (by omega)).mp (z.trans e15))
    rw [eC, eM, if_neg n15]
    have g1 : ∀ h a j v, gI h 0 0 = nI (nLd hm) → ¬ a = 0 → gI (pI h a j v) 0 0 = nI (nLd hm) := fun h a j v hh ha => by rw [gI_pI, if_neg (fun z => ha z.1.symm)]; exact hh
    have q1 := g1 _ 1 (nLd hm) p1 eM (by decide)
    have q2 := g1 _ 2 (nLd hm) p2 q1 (by decide)
    have q3 := g1 _ 3 (nLd hm) p3 q2 (by decide)
    have q4 := g1 _ 4 (nLd hm) p4 q3 (by decide)
    have q5 := g1 _ 5 (nLd hm) p5 q4 (by decide)
    have q6 := g1 _ 32 (nLd hm) (-1) q5 (by decide)
    simp only [inb_n hn (show 15 < 2 ^ 31 by omega), ck_t, nI_clamp (show nLd hm < 2 ^ 31 by omega), q1, q2, q3, q4, q5, q6, nI_1]
    have qz : ∀ (h : HS) (v : Int32), gI (pI h 0 0 v) 0 0 = v := fun h v => by rw [gI_pI, if_pos ⟨rfl, rfl⟩]
    rw [qz, nI_pred]
    -- the model's numbers
    generalize eh : pI (pI (pI (pI (pI (pI (pI (pI hm 0 22 0) 1 (nLd hm) p1) 2 (nLd hm) p2) 3 (nLd hm) p3) 4 (nLd hm) p4) 5 (nLd hm) p5) 32 (nLd hm) (-1)) 0 0 (nI (nLd hm + 1)) = hm'
    have M : ∀ b j, gI hm' b j = if b = 0 ∧ j = 0 then nI (nLd hm + 1) else if b = 32 ∧ j = nLd hm then -1 else if b = 5 ∧ j = nLd hm then p5 else if b = 4 ∧ j = nLd hm then p4 else if b = 3 ∧ j = nLd hm then p3 else if b = 2 ∧ j = nLd hm then p2 else if b = 1 ∧ j = nLd hm then p1 else if b = 0 ∧ j = 22 then 0 else gI hm b j := fun b j => by
      rw [← eh]; rfl
    generalize ec : pI (pI (pI (pI (pI hc 26 (nLd hm) p1) 27 (nLd hm) p2) 28 (nLd hm) p3) 29 (nLd hm) p4) 30 (nLd hm) p5 = hcA
    have C : ∀ b j, gI hcA b j = if b = 30 ∧ j = nLd hm then p5 else if b = 29 ∧ j = nLd hm then p4 else if b = 28 ∧ j = nLd hm then p3 else if b = 27 ∧ j = nLd hm then p2 else if b = 26 ∧ j = nLd hm then p1 else gI hc b j := fun b j => by
      rw [← ec]; rfl
    have m0 : gI hm' 0 0 = nI (nLd hm + 1) := by rw [M]; simp
    have m1 : ∀ j, gI hm' 1 j = if j = nLd hm then p1 else gI hm 1 j := fun j => by rw [M]; simp
    have m2 : ∀ j, gI hm' 2 j = if j = nLd hm then p2 else gI hm 2 j := fun j => by rw [M]; simp
    have m3 : ∀ j, gI hm' 3 j = if j = nLd hm then p3 else gI hm 3 j := fun j => by rw [M]; simp
    have m4 : ∀ j, gI hm' 4 j = if j = nLd hm then p4 else gI hm 4 j := fun j => by rw [M]; simp
    have m5 : ∀ j, gI hm' 5 j = if j = nLd hm then p5 else gI hm 5 j := fun j => by rw [M]; simp
    have m32 : ∀ j, gI hm' 32 j = if j = nLd hm then -1 else gI hm 32 j := fun j => by rw [M]; simp
    have mo : ∀ b j, ¬ (b = 0 ∧ (j = 0 ∨ j = 22)) → ¬ b = 1 → ¬ b = 2 → ¬ b = 3 → ¬ b = 4 → ¬ b = 5 → ¬ b = 32 → gI hm' b j = gI hm b j := fun b j z0 z1 z2 z3 z4 z5 z6 => by
      rw [M, if_neg (fun z => z0 ⟨z.1, Or.inl z.2⟩), if_neg (fun z => z6 z.1), if_neg (fun z => z5 z.1), if_neg (fun z => z4 z.1), if_neg (fun z => z3 z.1), if_neg (fun z => z2 z.1), if_neg (fun z => z1 z.1), if_neg (fun z => z0 ⟨z.1, Or.inr z.2⟩)]
    obtain ⟨l1, l2, l3, l4, l5, l6⟩ := H.1.1
    have eN : nLd hm' = nLd hm + 1 := by show (gI hm' 0 0).toNatClampNeg = _; rw [m0, nI_clamp (by omega)]
    have oR : ordR (gI hm' 1) (gI hm' 2) (nLd hm) = ordR (gI hm 1) (gI hm 2) (nLd hm) := ordR_cg (fun i hi => ⟨by rw [m1, if_neg (by omega)], by rw [m2, if_neg (by omega)]⟩)
    obtain ⟨A1, A2⟩ := H.1.2.2.2.2.2.2.2.2.2
    have hlen := ordR_len (kd := gI hm 1) (x := gI hm 2) (n := nLd hm)
    have A1' : gI hc 2 7 = nI (ordR (gI hm 1) (gI hm 2) (nLd hm)).length := by rw [A1]; unfold tanksM; rw [List.length_reverse]
    -- with the class's last step
    have fin : ∀ hcB : HS, gI hcB 2 8 = nI (nLd hm) → (∀ b j, ¬ b = 32 → ¬ (b = 2 ∧ j = 7) → gI hcB b j = gI hcA b j) → RA (pI hcB 2 8 (nI (nLd hm + 1))) hm' → OK2 (bd (fX4_add_75 hcB) (fun r18 h17 => some (r18, h17))) (some (nI (nLd hm), hm')) := by
      intro hcB b1 b2 b3
      unfold fX4_add_75
      rw [nm_e1, b1, nI_1, bd_s, show gI (pI hcB 2 8 (nI (nLd hm + 1))) 2 8 = nI (nLd hm + 1) by rw [gI_pI, if_pos ⟨rfl, rfl⟩], nI_pred]
      refine OK2_c (load_RR H hn c1 c2 c3 c4 c5 m0 m1 m2 m3 m4 m5 m32 mo ?_ ?_ ?_ ?_ ?_ ?_ ?_ b3)
      · rw [gI_pI, if_pos ⟨rfl, rfl⟩]
      · intro j; rw [gI_pI, if_neg (by omega), b2 26 j (by decide) (by omega), C, l2]; simp
      · intro j; rw [gI_pI, if_neg (by omega), b2 27 j (by decide) (by omega), C, l3]; simp
      · intro j; rw [gI_pI, if_neg (by omega), b2 28 j (by decide) (by omega), C, l4]; simp
      · intro j; rw [gI_pI, if_neg (by omega), b2 29 j (by decide) (by omega), C, l5]; simp
      · intro j; rw [gI_pI, if_neg (by omega), b2 30 j (by decide) (by omega), C, l6]; simp
      · intro b j z0 z1 z2 z3 z4 z5 z6
        rw [gI_pI, if_neg (fun z => z0 ⟨z.1, Or.inr z.2⟩), b2 b j z6 (fun z => z0 ⟨z.1, Or.inl z.2⟩), C, if_neg (fun z => z5 z.1), if_neg (fun z => z4 z.1), if_neg (fun z => z3 z.1), if_neg (fun z => z2 z.1), if_neg (fun z => z1 z.1)]
    have cA28 : gI hcA 2 8 = nI (nLd hm) := by rw [C]; simp; exact RR_eC H
    by_cases ck0 : p1 = 0
    · rw [if_pos ck0]
      have hold : holdsL hcA (ordR (gI hm 1) (gI hm 2) (nLd hm)).reverse := fun k j hk => by
        rw [C]; simp
        exact A2 k j hk
      obtain ⟨hcB, b1, b2, b3, b4, -⟩ := placeL (x := gI hcA 27) hn (ordR (gI hm 1) (gI hm 2) (nLd hm)) hcA (fun j hj => by have := (ordR_mem.mp hj).1; omega) (by omega) (fun _ => rfl) hold FU (FU_gt (by omega))
      have cA27 : gI hcA 2 7 = nI (ordR (gI hm 1) (gI hm 2) (nLd hm)).length := by rw [C]; simp; exact A1'
      unfold fX4_placeTank
      rw [nm_e1, cA27, b1, bv_s]
      refine fin hcB (by rw [b3 2 8 (by decide) (by decide)]; exact cA28) b3 ?_
      have e27 : gI hcA 27 = gI hm' 2 := funext fun j => by rw [C, m2, l3]; simp
      have eT : tanksM hm' = (insR (gI hm' 2) (nLd hm) (ordR (gI hm 1) (gI hm 2) (nLd hm))).reverse := by
        unfold tanksM
        rw [eN, ordR, if_pos (by rw [m1, if_pos rfl]; exact ck0), oR]
      rw [e27] at b4
      refine ⟨?_, fun k j hk => ?_⟩
      · rw [eT, List.length_reverse, insR_len, gI_pI, if_neg (by decide), b2, cA27, nI_1]
      · rw [eT] at hk
        rw [gI_pI, if_neg (by omega)]
        exact b4 k j hk
    · rw [if_neg ck0]
      refine fin hcA cA28 (fun _ _ _ _ => rfl) ?_
      have eT : tanksM hm' = tanksM hm := by
        unfold tanksM
        rw [eN, ordR, if_neg (by rw [m1, if_pos rfl]; exact ck0), oR]
      refine ⟨?_, fun k j hk => ?_⟩
      · rw [eT, gI_pI, if_neg (by decide), C]; simp; exact A1
      · rw [eT] at hk
        rw [gI_pI, if_neg (by omega), C]; simp
        exact A2 k j hk
end LOA
