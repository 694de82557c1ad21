/-! a day goes by -/
section OPD
variable {hc hm : HS}
theorem imin_toInt (x y : Int32) : (imin x y).toInt = min x.toInt y.toInt := by
  unfold imin
  by_cases c : y < x
  · rw [if_pos c]
    have := i32_lt.mp c
    omega
  · rw [if_neg c]
    have : ¬ y.toInt < x.toInt := fun z => c (i32_lt.mpr z)
    omega
theorem imax_toInt (x y : Int32) : (imax x y).toInt = max x.toInt y.toInt := by
  unfold imax
  by_cases c : x < y
  · rw [if_pos c]
    have := i32_lt.mp c
    omega
  · rw [if_neg c]
    have : ¬ x.toInt < y.toInt := fun z => c (i32_lt.mpr z)
    omega
theorem iabs_toInt {x : Int32} (h : -2147483648 < x.toInt) : (iabs x).toInt = (x.toInt.natAbs : Int) := by
  have := fb_rng9 x
  unfold iabs
  by_cases c : 0 ≤ x
  · rw [if_pos c]
    have := i32_le.mp c
    rw [i32_z] at this
    omega
  · rw [if_neg c, fb_subI9 (by rw [i32_z]; omega) (by rw [i32_z]; omega), i32_z]
    have : ¬ (0 : Int32).toInt ≤ x.toInt := fun z => c (i32_le.mpr z)
    rw [i32_z] at this
    omega
/-- only what loads have changes -/
def onlyH (h h' : HS) (a : Nat) : Prop := ∀ b j, ¬ b = a → gI h' b j = gI h b j
theorem RR_has2 {hc' hm' : HS} (ec : onlyH hc hc' 30) (em : onlyH hm hm' 5) (e : ∀ k, gI hc' 30 k = gI hm' 5 k) (hv : ∀ i, i < nLd hm → 0 ≤ (gI hm' 5 i).toInt ∧ (gI hm' 5 i).toInt ≤ (gI hm 4 i).toInt) (H : RR hc hm) : RR hc' hm' := by
  refine RR_has (hc := hc) (hm := hm) (fun b j q => ec b j ?_) (fun b j q => em b j ?_) e hv H
  · rintro rfl
    simp [kcH] at q
  · rintro rfl
    simp [kmH] at q
theorem onlyH_p {h h' : HS} {a k : Nat} {v : Int32} (o : onlyH h h' a) : onlyH h (pI h' a k v) a := fun b j hb => by
  rw [gI_pI, if_neg (fun z => hb z.1)]
  exact o b j hb
theorem onlyH_r {h : HS} {a : Nat} : onlyH h h a := fun _ _ _ => rfl
theorem onlyH_t {h h1 h2 : HS} {a : Nat} (o1 : onlyH h h1 a) (o2 : onlyH h1 h2 a) : onlyH h h2 a := fun b j hb => (o2 b j hb).trans (o1 b j hb)
/-- what is lost of a store in a day, and what comes as waste -/
theorem day_step (H : RR hc hm) {i : Nat} (hi : i < nLd hm) (hk : gI hm 1 i = 1) :
    ∃ hc' hm', (∀ n v1, ck (inb (nI i) 15) (ck (inb (nI i) 15) (fX8_goDay_50 n v1 (nI i) (imin (gI hc 63 (nI i).toNatClampNeg) (gI hc 30 (nI i).toNatClampNeg)) hc)) = n (if imin (gI hm 30 i) (gI hm 5 i) ≤ 0 then v1 else 1) (nI (i + 1)) hc') ∧
      (∀ n, fX12_goBy_2 (n + 1) (nI i) hm = fX12_goBy_2 n (nI (i + 1)) hm') ∧ RR hc' hm' ∧ onlyH hc hc' 30 ∧ onlyH hm hm' 5 ∧ (imin (gI hm 30 i) (gI hm 5 i) ≤ 0 → ∀ k, gI hm' 5 k = gI hm 5 k) := by
  have hn := RR_15 H
  have l6 := H.1.1.2.2.2.2.2
  have l5 := H.1.1.2.2.2.2.1
  obtain ⟨s1, s2, s3⟩ := H.1.2.2.2.2.2.2.2.1
  obtain ⟨is1, is2, is3⟩ := H.2.1.2.2.2.1
  obtain ⟨-, -, -, x1, x2, x3⟩ := H.2.1.1.2 i hi
  obtain ⟨e1, e2⟩ := is1 i (by omega)
  have gm := imin_toInt (gI hm 30 i) (gI hm 5 i)
  generalize hg : imin (gI hm 30 i) (gI hm 5 i) = g at gm
  have ci : (nI i).toNatClampNeg = i := nI_clamp (by omega)
  have c100 : (100 : Int32).toInt = 100 := by decide +kernel
  have head : ∀ n, fX12_goBy_2 (n + 1) (nI i) hm = (if gI hm 32 i = -1 then fX12_goBy_2 n (nI (i + 1)) (pI hm 5 i (gI hm 5 i - g)) else (ck (inb (gI hm 32 i) 15) (bd (fX12_roomOf (gI hm 32 i) (pI hm 5 i (gI hm 5 i - g))) (fun r17 h16 => ck (inb (gI hm 32 i) 15) (fX12_goBy_2 n (nI (i + 1)) (pI h16 5 (gI hm 32 i).toNatClampNeg (gI (pI hm 5 i (gI hm 5 i - g)) 5 (gI hm 32 i).toNatClampNeg + imin r17 (g * gI h16 31 i / 100)))))))) := by
    intro n
    rw [fX12_goBy_2, RR_eM H, if_neg (nI_ge hi (by omega))]
    simp only [inb_n (show i < 15 by omega) (by omega), ck_t, ci, nm_e1, hk, if_true, hg, nI_1]
    rw [show gI (pI hm 5 i (gI hm 5 i - g)) 32 i = gI hm 32 i by rw [gI_pI, if_neg (by omega)]]
  have cl : ∀ n v1, ck (inb (nI i) 15) (ck (inb (nI i) 15) (fX8_goDay_50 n v1 (nI i) (imin (gI hc 63 (nI i).toNatClampNeg) (gI hc 30 (nI i).toNatClampNeg)) hc)) = if g ≤ 0 then n v1 (nI (i + 1)) hc else bv (fX4_give (gI hc 65 i) (g * gI hm 31 i / 100) (pI hc 30 i (gI hm 5 i - g))) (fun h14 => n 1 (nI (i + 1)) h14) := by
    intro n v1
    unfold fX8_goDay_50
    simp only [inb_n (show i < 15 by omega) (by omega), ck_t, ci, nm_e1, s1, l6, hg, nI_1]
    by_cases c : g ≤ 0
    · rw [if_pos c, if_pos c]
    · rw [if_neg c, if_neg c]
      rw [show gI (pI hc 30 i (gI hm 5 i - g)) 65 i = gI hc 65 i by rw [gI_pI, if_neg (by omega)], show gI (pI hc 30 i (gI hm 5 i - g)) 64 i = gI hm 31 i by rw [gI_pI, if_neg (by omega)]; exact s2 i]
  have n1 : ∀ j, j < nLd hm → ¬ nI j = (-1 : Int32) := fun j hj e => m1_ne (by omega) e.symm
  have p2 := mul_rng (x := g) (y := gI hm 31 i) (a := 50) (b := 100) (by omega) (by omega) (by omega) (by omega)
  have p3 : 0 ≤ (g * gI hm 31 i).toInt := by rw [p2.1]; exact Int.mul_nonneg (by omega) (by omega)
  have p4 : (g * gI hm 31 i / 100).toInt = (g * gI hm 31 i).toInt / 100 := by rw [fb_divI9 (by omega), c100, Int.tdiv_eq_ediv_of_nonneg p3]
  have eg : (gI hm 5 i - g).toInt = (gI hm 5 i).toInt - g.toInt := fb_subI9 (by omega) (by omega)
  by_cases c : g ≤ 0
  · -- nothing is eaten
    have g0 : g = 0 := by
      apply Int32.toInt_inj.mp
      have := i32_le.mp c
      rw [i32_z] at this ⊢
      omega
    have e0 : gI hm 5 i - g = gI hm 5 i := by rw [g0]; exact Int32.sub_zero _
    rcases is3 i hi with w | ⟨j, hj, w, hij⟩
    · refine ⟨hc, pI hm 5 i (gI hm 5 i - g), fun n v1 => by rw [cl, if_pos c, if_pos c], fun n => by rw [head, w, if_pos rfl], ?_, onlyH_r, onlyH_p onlyH_r, fun _ k => ?_⟩
      · refine RR_has2 onlyH_r (onlyH_p onlyH_r) (fun k => ?_) (fun k hk2 => ?_) H
        · rw [gI_pI, e0]
          by_cases z : k = i
          · rw [if_pos ⟨rfl, z⟩, z]; exact l6 i
          · rw [if_neg (fun q => z q.2)]; exact l6 k
        · obtain ⟨-, -, -, y1, y2, y3⟩ := H.2.1.1.2 k hk2
          rw [gI_pI, e0]
          by_cases z : k = i
          · subst z; rw [if_pos ⟨rfl, rfl⟩]; exact ⟨y1, y2⟩
          · rw [if_neg (fun q => z q.2)]; exact ⟨y1, y2⟩
      · rw [gI_pI, e0]
        by_cases z : k = i
        · rw [if_pos ⟨rfl, z⟩, z]
        · rw [if_neg (fun q => z q.2)]
    · obtain ⟨-, -, -, y1, y2, y3⟩ := H.2.1.1.2 j hj
      have sm : ∀ k, gI (pI hm 5 i (gI hm 5 i - g)) 5 k = gI hm 5 k := fun k => by
        rw [gI_pI, e0]
        by_cases z : k = i
        · rw [if_pos ⟨rfl, z⟩, z]
        · rw [if_neg (fun q => z q.2)]
      have rm : fX12_roomOf (nI j) (pI hm 5 i (gI hm 5 i - g)) = some (gI hm 4 j - gI hm 5 j, pI hm 5 i (gI hm 5 i - g)) := by
        unfold fX12_roomOf
        simp only [inb_n (show j < 15 by omega) (by omega), ck_t, nI_clamp (show j < 2 ^ 31 by omega)]
        rw [sm, show gI (pI hm 5 i (gI hm 5 i - g)) 4 j = gI hm 4 j by rw [gI_pI, if_neg (by omega)]]
      have add0 : gI hm 5 j + imin (gI hm 4 j - gI hm 5 j) (g * gI hm 31 i / 100) = gI hm 5 j := by
        have r1 : (gI hm 4 j - gI hm 5 j).toInt = (gI hm 4 j).toInt - (gI hm 5 j).toInt := fb_subI9 (by omega) (by omega)
        have r2 : (g * gI hm 31 i).toInt = 0 := by rw [p2.1, g0, i32_z, Int.zero_mul]
        have r3 : imin (gI hm 4 j - gI hm 5 j) (g * gI hm 31 i / 100) = 0 := by
          apply Int32.toInt_inj.mp
          rw [imin_toInt, p4, r2, r1, i32_z]
          omega
        rw [r3]
        exact Int32.add_zero _
      have g31 : gI (pI hm 5 i (gI hm 5 i - g)) 31 i = gI hm 31 i := by rw [gI_pI, if_neg (by omega)]
      have all : ∀ k, gI (pI (pI hm 5 i (gI hm 5 i - g)) 5 j (gI hm 5 j)) 5 k = gI hm 5 k := fun k => by
        rw [gI_pI]
        by_cases z : k = j
        · rw [if_pos ⟨rfl, z⟩, z]
        · rw [if_neg (fun q => z q.2)]; exact sm k
      refine ⟨hc, pI (pI hm 5 i (gI hm 5 i - g)) 5 j (gI hm 5 j), fun n v1 => by rw [cl, if_pos c, if_pos c], fun n => ?_, ?_, onlyH_r, onlyH_p (onlyH_p onlyH_r), fun _ k => all k⟩
      · rw [head, w, if_neg (n1 j hj), rm, bd_s]
        simp only [inb_n (show j < 15 by omega) (by omega), ck_t, nI_clamp (show j < 2 ^ 31 by omega)]
        rw [sm, g31, add0]
      · refine RR_has2 onlyH_r (onlyH_p (onlyH_p onlyH_r)) (fun k => by rw [all]; exact l6 k) (fun k hk2 => ?_) H
        obtain ⟨-, -, -, z1, z2, z3⟩ := H.2.1.1.2 k hk2
        rw [all]
        exact ⟨z1, z2⟩
  · -- something is eaten
    have gp : 0 < g.toInt := by
      have : ¬ g.toInt ≤ (0 : Int32).toInt := fun z => c (i32_le.mpr z)
      rw [i32_z] at this
      omega
    have ne : ¬ gI hm 30 i = 0 := fun z => by
      rw [z, i32_z] at gm
      omega
    have w65 := s3 i (by omega) ne
    have eC : gI (pI hc 30 i (gI hm 5 i - g)) 2 8 = nI (nLd hm) := by rw [gI_pI, if_neg (by omega)]; exact RR_eC H
    rcases is3 i hi with w | ⟨j, hj, w, hij⟩
    · refine ⟨pI hc 30 i (gI hm 5 i - g), pI hm 5 i (gI hm 5 i - g), fun n v1 => ?_, fun n => by rw [head, w, if_pos rfl], ?_, onlyH_p onlyH_r, onlyH_p onlyH_r, fun z => absurd z c⟩
      · rw [cl, if_neg c, if_neg c, w65, w]
        unfold fX4_give
        rw [f_thereC (by omega) eC, bd_s, if10s, if_neg, bv_s]
        rintro ⟨a, ha, e⟩
        exact m1_ne (by omega) e
      · refine RR_has2 (onlyH_p onlyH_r) (onlyH_p onlyH_r) (fun k => ?_) (fun k hk2 => ?_) H
        · rw [gI_pI, gI_pI]
          by_cases z : k = i
          · rw [if_pos ⟨rfl, z⟩, if_pos ⟨rfl, z⟩]
          · rw [if_neg (fun q => z q.2), if_neg (fun q => z q.2)]; exact l6 k
        · obtain ⟨-, -, -, y1, y2, y3⟩ := H.2.1.1.2 k hk2
          rw [gI_pI]
          by_cases z : k = i
          · subst z; rw [if_pos ⟨rfl, rfl⟩]; omega
          · rw [if_neg (fun q => z q.2)]; exact ⟨y1, y2⟩
    · obtain ⟨-, -, -, y1, y2, y3⟩ := H.2.1.1.2 j hj
      have smj : gI (pI hm 5 i (gI hm 5 i - g)) 5 j = gI hm 5 j := by rw [gI_pI, if_neg (fun q => hij q.2)]
      have smc : gI (pI hc 30 i (gI hm 5 i - g)) 30 j = gI hm 5 j := by rw [gI_pI, if_neg (fun q => hij q.2)]; exact l6 j
      have rm : fX12_roomOf (nI j) (pI hm 5 i (gI hm 5 i - g)) = some (gI hm 4 j - gI hm 5 j, pI hm 5 i (gI hm 5 i - g)) := by
        unfold fX12_roomOf
        simp only [inb_n (show j < 15 by omega) (by omega), ck_t, nI_clamp (show j < 2 ^ 31 by omega)]
        rw [smj, show gI (pI hm 5 i (gI hm 5 i - g)) 4 j = gI hm 4 j by rw [gI_pI, if_neg (by omega)]]
      have g31 : gI (pI hm 5 i (gI hm 5 i - g)) 31 i = gI hm 31 i := by rw [gI_pI, if_neg (by omega)]
      have r1 : (gI hm 4 j - gI hm 5 j).toInt = (gI hm 4 j).toInt - (gI hm 5 j).toInt := fb_subI9 (by omega) (by omega)
      have r2 := imin_toInt (gI hm 4 j - gI hm 5 j) (g * gI hm 31 i / 100)
      have r3 : (gI hm 5 j + imin (gI hm 4 j - gI hm 5 j) (g * gI hm 31 i / 100)).toInt = (gI hm 5 j).toInt + (imin (gI hm 4 j - gI hm 5 j) (g * gI hm 31 i / 100)).toInt := fb_addI9 (by omega) (by omega)
      have r4 : (gI hm 5 j + g * gI hm 31 i / 100).toInt = (gI hm 5 j).toInt + (g * gI hm 31 i / 100).toInt := fb_addI9 (by omega) (by omega)
      have add1 : imin (gI hm 4 j) (gI hm 5 j + g * gI hm 31 i / 100) = gI hm 5 j + imin (gI hm 4 j - gI hm 5 j) (g * gI hm 31 i / 100) := by
        apply Int32.toInt_inj.mp
        rw [imin_toInt, r3, r2, r4, r1]
        omega
      generalize hG : gI hm 5 j + imin (gI hm 4 j - gI hm 5 j) (g * gI hm 31 i / 100) = V at add1 r3
      refine ⟨pI (pI hc 30 i (gI hm 5 i - g)) 30 j V, pI (pI hm 5 i (gI hm 5 i - g)) 5 j V, fun n v1 => ?_, fun n => ?_, ?_, onlyH_p (onlyH_p onlyH_r), onlyH_p (onlyH_p onlyH_r), fun z => absurd z c⟩
      · rw [cl, if_neg c, if_neg c, w65, w]
        unfold fX4_give
        rw [f_thereC (by omega) eC, bd_s, if10s, if_pos (show ∃ a, a < nLd hm ∧ nI j = nI a from ⟨j, hj, rfl⟩)]
        simp only [inb_n (show j < 15 by omega) (by omega), ck_t, nI_clamp (show j < 2 ^ 31 by omega), nm_e1]
        rw [smc, show gI (pI hc 30 i (gI hm 5 i - g)) 29 j = gI hm 4 j by rw [gI_pI, if_neg (by omega)]; exact l5 j, add1, bv_s]
      · rw [head, w, if_neg (n1 j hj), rm, bd_s]
        simp only [inb_n (show j < 15 by omega) (by omega), ck_t, nI_clamp (show j < 2 ^ 31 by omega)]
        rw [smj, g31, hG]
      · refine RR_has2 (onlyH_p (onlyH_p onlyH_r)) (onlyH_p (onlyH_p onlyH_r)) (fun k => ?_) (fun k hk2 => ?_) H
        · simp only [gI_pI, l6, true_and]
        · obtain ⟨-, -, -, w1, w2, w3⟩ := H.2.1.1.2 k hk2
          rw [gI_pI]
          by_cases z : k = j
          · subst z
            rw [if_pos ⟨rfl, rfl⟩]
            omega
          · rw [if_neg (fun q => z q.2), gI_pI]
            by_cases z2 : k = i
            · subst z2
              rw [if_pos ⟨rfl, rfl⟩]
              omega
            · rw [if_neg (fun q => z2 q.2)]
              exact ⟨w1, w2⟩
end OPD
