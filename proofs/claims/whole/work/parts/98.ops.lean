section GRO3
variable {hc hm : HS}
theorem op_ground (H : RR hc hm) (p1 p2 : Int32) : OK2 (fX11_ground p1 p2 hc) (fX12_ground p1 p2 hm) := by
  have H2 := RR_thrown 0 H
  simp only [fX11_ground, fX12_ground, nm_e1, f_isDepthC, f_isDepthM, f_between, f_in, bd_s, if10s]
  refine OK2_if (fun c1 => ?_) (fun _ => OK2_c H2)
  refine OK2_if (fun c2 => ?_) (fun _ => OK2_c H2)
  generalize pI hm 0 22 0 = h0 at *
  obtain ⟨A1, A2, A3, A4⟩ := RR_hold H2
  obtain ⟨t15, tr⟩ := tank_rng H2.2.1.1
  have n15 := RR_15 H2
  have e30 : gI hc 30 = gI h0 5 := funext H2.1.1.2.2.2.2.2
  have lh := (l_hold4 (h := hc) t15 A2 (fun j hj => (tr j hj).1) A1 (tanksM h0) [] 0 rfl FU (FU_gt (by omega))).1
  rw [show nI ([] : List Nat).length = 0 from nI_0, Int32.zero_add, e30] at lh
  have sI := sumL_i (f := gI h0 5) (g := fun j => (gI h0 5 j).toInt) (hi := 999) (by omega) (by omega) t15 (fun j hj => ⟨rfl, (tr j hj).2.2.2.2⟩)
  unfold fX4_tanksHold
  rw [e_heavyC (RR_VNc H2) (RR_VYc H2), bd_s, e_heavyM H2.2.1.1.1 H2.2.1.2.1.2.2.2.2.2.1, bd_s, RR_Hc H2, lh, bd_s]
  obtain ⟨V, eV⟩ : ∃ V, V = imax 0 (Hm h0 p1 + p2 + 1) := ⟨_, rfl⟩
  have V0 : 0 ≤ V.toInt := by rw [eV, imax_toInt, i32_z]; omega
  rw [← eV]
  obtain ⟨h1, q1, q2, q3, q4⟩ := e_push (h := h0) (q := 0) (by omega) (by rw [H2.2.2, nI_0])
  rw [q1, bv_s]
  by_cases c : V ≤ sumL (gI h0 5) (tanksM h0)
  · rw [if_pos c]
    have c' := i32_le.mp c
    rw [sI] at c'
    have S : ∀ b j, gI (cpI hc 30 31 0 0 15) b j = if b = 31 ∧ j < 15 then gI hc 30 j else gI hc b j := by
      intro b j
      rw [gI_cpI]
      by_cases z : b = 31
      · subst z
        rw [if_pos rfl]
        by_cases y : j < 15
        · rw [if_pos ⟨rfl, y⟩, pk_cpy_in (by omega) (by omega), Nat.zero_add, Nat.sub_zero]; rfl
        · rw [if_neg (fun q => y q.2), pk_cpy_out (by omega)]; rfl
      · rw [if_neg z, if_neg (fun q => z q.1)]
    have HS1 : RR (cpI hc 30 31 0 0 15) (pI h1 0 24 0) := RR_cg (hc := hc) (hm := h0) (fun b j q => by rw [S, if_neg (by rintro ⟨rfl, -⟩; cases q)]) (fun b j q => by
      rw [gI_pI]
      by_cases z : b = 0 ∧ j = 24
      · rw [if_pos z, z.1, z.2, H2.2.2]
      · rw [if_neg z, q3 b j (by rintro rfl; cases q) z]) H2
    have eL : tanksM (pI h1 0 24 0) = tanksM h0 := tanksM_cg (by rw [g24 (by decide), q3 0 0 (by decide) (by decide)]) (fun j => by rw [g24 (by omega), q3 1 j (by decide) (by omega)]) (fun j => by rw [g24 (by omega), q3 2 j (by decide) (by omega)])
    have s5 : allL (fun j => (gI h1 5 j).toInt) (tanksM h0) = allL (fun j => (gI h0 5 j).toInt) (tanksM h0) := allL_same (fun j _ => by show (gI h1 5 j).toInt = (gI h0 5 j).toInt; rw [q3 5 j (by decide) (by omega)])
    have fl : ((tanksM h0).filter (fun j => !Nat.testBit 0 j)).length ≤ (tanksM h0).length := List.length_filter_le _ _
    obtain ⟨hcE, hE, d1, d2, d3, d4, d5⟩ := gr_loop (L := tanksM h0) V (tanksM h0).length 0 0 _ h1 V (by omega) HS1 eL (by decide) (by omega) V0 (by omega) (fun j _ w => by rw [Nat.zero_testBit] at w; cases w) FU FU (FU_gt (by omega)) (FU_gt (by omega))
    rw [nI_0] at d1 d2
    have c15 : cpok 0 0 15 15 15 = true := cpok15
    unfold fX4_save fX4_emptyFullestFirst
    rw [c15, ck_t, nm_e1, bv_s, cl0, cl15, d1, bv_s, d2]
    obtain ⟨r1, r2, r3⟩ := row0 d3
    have r2' : RR (pI hcE 4 1 0) (pI (pI hE 0 21 0) 0 24 0) := by rw [p24 (by decide)]; exact r2
    obtain ⟨hcF, hF, f1, f2, f3, f4, f5⟩ := gr_row V (nLd (pI (pI hE 0 21 0) 0 24 0)) 0 0 _ (pI hE 0 21 0) r2' (by omega) (by omega) (by rw [gI_pI, if_pos ⟨rfl, rfl⟩, nI_0]) FU FU (FU_gt (by have := RR_15 r2'; omega)) (FU_gt (by have := RR_15 r2'; omega))
    rw [nI_0] at f1 f2
    rw [r1, bv_s, f1]
    unfold fX12_ground_176
    rw [if_pos rfl, nm_e1, f2]
    unfold fX12_ground_225 fX4_restore
    have e24F : gI hF 0 24 = nI (0 + 1) := by rw [f5 0 24 (by decide) (by decide), gI_pI, if_neg (by decide), d5 0 24 (by decide)]; exact q2
    obtain ⟨h3, k1, k2, k3, k4⟩ := e_pop (h := hF) (q := 0) (by omega) e24F
    rw [c15, ck_t, nm_e1, bv_s, cl0, cl15, k1, bv_s, if_pos (by decide)]
    refine ⟨V, _, h3, rfl, rfl, ?_⟩
    have m5 : ∀ j, gI h3 5 j = if j < 15 then gI h0 5 j else gI hF 5 j := fun j => by
      rw [k4 j]
      by_cases y : j < 15
      · rw [if_pos y, if_pos y, f5 11 _ (by decide) (by omega), gI_pI, if_neg (by omega), d5 11 _ (by decide), q4, if_pos (by omega)]
        congr 1
        omega
      · rw [if_neg y, if_neg y]
    have C : ∀ b j, gI (cpI hcF 31 30 0 0 15) b j = if b = 30 ∧ j < 15 then gI hc 30 j else gI hcF b j := by
      intro b j
      rw [gI_cpI]
      by_cases z : b = 30
      · subst z
        rw [if_pos rfl]
        by_cases y : j < 15
        · rw [if_pos ⟨rfl, y⟩, pk_cpy_in (by omega) (by omega), Nat.zero_add, Nat.sub_zero]
          have : gI hcF 31 j = gI hc 30 j := by rw [f4 31 j (by decide) (by decide), gI_pI, if_neg (by omega), d4 31 j (by decide), S, if_pos ⟨rfl, y⟩]
          exact this
        · rw [if_neg (fun q => y q.2), pk_cpy_out (by omega)]; rfl
      · rw [if_neg z, if_neg (fun q => z q.1)]
    refine RR_has (hc := hcF) (hm := pI hF 0 24 0) (fun b j q => ?_) (fun b j q => ?_) (fun k => ?_) (fun i hi => ?_) f3
    · rw [C, if_neg (fun z => by rw [z.1] at q; simp [kcH] at q)]
    · have n5 : ¬ b = 5 := by rintro rfl; simp [kmH] at q
      rw [gI_pI]
      by_cases z : b = 0 ∧ j = 24
      · rw [if_pos z, z.1, z.2, k2, nI_0]
      · rw [if_neg z, k3 b j n5 z]
    · rw [C, m5]
      by_cases y : k < 15
      · rw [if_pos ⟨rfl, y⟩, if_pos y, e30]
      · rw [if_neg (fun q => y q.2), if_neg y, f3.1.1.2.2.2.2.2 k, g24 (by omega)]
    · have nF : nLd (pI hF 0 24 0) = nLd h0 := by
        show (gI _ 0 0).toNatClampNeg = (gI _ 0 0).toNatClampNeg
        rw [g24 (by decide), f5 0 0 (by decide) (by decide), gI_pI, if_neg (by decide), d5 0 0 (by decide), q3 0 0 (by decide) (by decide)]
      rw [nF] at hi
      obtain ⟨-, -, -, u1, u2, u3⟩ := H2.2.1.1.2 i hi
      rw [m5, if_pos (by omega), g24 (by omega), f5 4 i (by decide) (by omega), gI_pI, if_neg (by omega), d5 4 i (by decide), q3 4 i (by decide) (by omega)]
      exact ⟨u1, u2⟩
  · rw [if_neg c]
    have c' : ¬ V.toInt ≤ allL (fun j => (gI h0 5 j).toInt) (tanksM h0) := fun z => c (i32_le.mpr (by rw [sI]; exact z))
    have s5 : allL (fun j => (gI h1 5 j).toInt) (tanksM h0) = allL (fun j => (gI h0 5 j).toInt) (tanksM h0) := allL_same (fun j _ => by show (gI h1 5 j).toInt = (gI h0 5 j).toInt; rw [q3 5 j (by decide) (by omega)])
    have fl : ((tanksM h0).filter (fun j => !Nat.testBit 0 j)).length ≤ (tanksM h0).length := List.length_filter_le _ _
    obtain ⟨v', hE, d1, d2, d3, d4⟩ := gr_fail (L := tanksM h0) (N := nLd h0) n15 (tanks_nd h0) V (tanksM h0).length 0 h1 V fl (by rw [q3 0 0 (by decide) (by decide)]; exact RR_eM H2) (fun j => by rw [q3 1 j (by decide) (by omega)]; exact A4 j) (fun j hj => by rw [q3 5 j (by decide) (by omega)]; exact (tr j hj).2.2.2.2) (by decide) (by omega) FU (FU_gt (by omega))
    rw [nI_0] at d1
    rw [d1]
    unfold fX12_ground_225
    obtain ⟨h3, k1, k2, k3, k4⟩ := e_pop (h := hE) (q := 0) (by omega) (by rw [d3 0 24 (by decide)]; exact q2)
    have nv : ¬ v' ≤ 0 := fun z => by have := i32_le.mp z; rw [i32_z] at this; omega
    rw [k1, bv_s, if_neg nv]
    refine OK2_c (RR_exP (hm := h0) (fun b j z1 z2 => ?_) (by rw [k2, nI_0]) H2)
    by_cases z5 : b = 5
    · subst z5
      rw [k4]
      by_cases y : j < 15
      · rw [if_pos y, d3 11 _ (by decide), q4, if_pos (by omega)]
        congr 1
        omega
      · rw [if_neg y, d4 j y, q3 5 j z1 z2]
    · rw [k3 b j z5 z2, d3 b j z5, q3 b j z1 z2]
end GRO3
