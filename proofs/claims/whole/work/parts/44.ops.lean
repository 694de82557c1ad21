/-! more operations -/
def kcH (b j : Nat) : Bool := kcA b j && !(b == 30)
def kmH (b j : Nat) : Bool := kmA b j && !(b == 5)
theorem kcH_of {K : Nat → Nat → Bool} (h1 : ∀ b j, K b j = true → kcA b j = true) (h2 : ∀ j, K 30 j = false) : ∀ b j, K b j = true → kcH b j = true := by
  intro b j q
  unfold kcH
  rw [h1 b j q, Bool.true_and]
  by_cases c : b = 30
  · subst c
    rw [h2 j] at q
    cases q
  · simp [c]
theorem kmH_of {K : Nat → Nat → Bool} (h1 : ∀ b j, K b j = true → kmA b j = true) (h2 : ∀ j, K 5 j = false) : ∀ b j, K b j = true → kmH b j = true := by
  intro b j q
  unfold kmH
  rw [h1 b j q, Bool.true_and]
  by_cases c : b = 5
  · subst c
    rw [h2 j] at q
    cases q
  · simp [c]
/-- what loads have has changed, on both sides alike -/
theorem RR_has {hc hc' hm hm' : HS} (ec : ∀ b j, kcH b j = true → gI hc' b j = gI hc b j) (em : ∀ b j, kmH b j = true → gI hm' b j = gI hm b j) (e : ∀ k, gI hc' 30 k = gI hm' 5 k) (hv : ∀ i, i < nLd hm → 0 ≤ (gI hm' 5 i).toInt ∧ (gI hm' 5 i).toInt ≤ (gI hm 4 i).toInt) (H : RR hc hm) : RR hc' hm' := by
  obtain ⟨⟨h1, h2, h3, h4, h5, h6, h7, h8, h9, h10⟩, ⟨i1, i2, i3, i4, i5⟩, p⟩ := H
  have n1 : RLo hc' hm' := by
    obtain ⟨l1, l2, l3, l4, l5, l6⟩ := h1
    refine ⟨by rw [ec 2 8 rfl, em 0 0 rfl]; exact l1, fun k => ?_, fun k => ?_, fun k => ?_, fun k => ?_, e⟩
    · rw [ec 26 k rfl, em 1 k rfl]; exact l2 k
    · rw [ec 27 k rfl, em 2 k rfl]; exact l3 k
    · rw [ec 28 k rfl, em 3 k rfl]; exact l4 k
    · rw [ec 29 k rfl, em 4 k rfl]; exact l5 k
  have n2 : IL hm' := by
    obtain ⟨⟨n, v1, v2⟩, v3⟩ := i1
    refine ⟨⟨n, v1, by rw [em 0 0 rfl]; exact v2⟩, fun i hi => ?_⟩
    have hi' : i < nLd hm := by
      have e0 : nLd hm' = nLd hm := by show (gI hm' 0 0).toNatClampNeg = (gI hm 0 0).toNatClampNeg; rw [em 0 0 rfl]
      rw [← e0]; exact hi
    obtain ⟨a1, a2, a3, -, -, a6⟩ := v3 i hi'
    rw [em 1 i rfl, em 2 i rfl, em 3 i rfl, em 4 i rfl]
    exact ⟨a1, a2, a3, (hv i hi').1, (hv i hi').2, a6⟩
  exact ⟨⟨n1, RB_cg (cg_le (kcH_of le_kcRB (fun _ => rfl)) ec) (cg_le (kmH_of le_kmRB (fun _ => rfl)) em) h2, RT_cg (cg_le (kcH_of le_kcRT (fun _ => rfl)) ec) (cg_le (kmH_of le_kmRT (fun _ => rfl)) em) h3, RW_cg (cg_le (kcH_of le_kcRW (fun _ => rfl)) ec) (cg_le (kmH_of le_kmRW (fun _ => rfl)) em) h4, RK_cg (cg_le (kcH_of le_kcRK (fun _ => rfl)) ec) (cg_le (kmH_of le_kmRK (fun _ => rfl)) em) h5, RP_cg (cg_le (kcH_of le_kcRP (fun _ => rfl)) ec) (cg_le (kmH_of le_kmRP (fun _ => rfl)) em) h6, RG_cg (cg_le (kcH_of le_kcRG (fun _ => rfl)) ec) (cg_le (kmH_of le_kmRG (fun _ => rfl)) em) h7, RS_cg (cg_le (kcH_of le_kcRS (fun _ => rfl)) ec) (cg_le (kmH_of le_kmRS (fun _ => rfl)) em) h8, RE_cg (cg_le (kcH_of le_kcRE (fun _ => rfl)) ec) (cg_le (kmH_of le_kmRE (fun _ => rfl)) em) h9, RA_cg (cg_le (kcH_of le_kcRA (fun _ => rfl)) ec) (cg_le (kmH_of le_kmRA (fun _ => rfl)) em) h10⟩, ⟨n2, IB_cg (cg_le (kmH_of le_kmIB (fun _ => rfl)) em) i2, IP_cg (cg_le (kmH_of le_kmIP (fun _ => rfl)) em) i3, IS_cg (cg_le (kmH_of le_kmIS (fun _ => rfl)) em) i4, IE_cg (cg_le (kmH_of le_kmIE (fun _ => rfl)) em) i5⟩, (em 0 24 rfl).trans p⟩
theorem e_isAC {h : HS} {n : Nat} (hn : n ≤ 15) (e : gI h 2 8 = nI n) (x k : Int32) (dc : Decidable (∃ i, i < n ∧ x = nI i ∧ gI h 26 i = k)) : fX4_isA x k h = some (if ∃ i, i < n ∧ x = nI i ∧ gI h 26 i = k then 1 else 0, h) := by
  unfold fX4_isA
  rw [f_thereC (by omega) e, bd_s]
  by_cases c : ∃ i, i < n ∧ x = nI i
  · rw [if_pos c, if_neg (by decide)]
    obtain ⟨i, hi, rfl⟩ := c
    simp only [inb_n (show i < 15 by omega) (by omega), ck_t, nI_clamp (show i < 2 ^ 31 by omega)]
    by_cases c2 : gI h 26 i = k
    · rw [if_pos c2, if_pos ⟨i, hi, rfl, c2⟩]
    · rw [if_neg c2, if_neg]
      rintro ⟨j, hj, h1, h2⟩
      have := (nI_eq (by omega) (by omega)).mp h1
      subst this
      exact c2 h2
  · rw [if_neg c, if_pos rfl, if_neg]
    rintro ⟨j, hj, h1, h2⟩
    exact c ⟨j, hj, h1⟩
theorem e_isOfM {h : HS} {n : Nat} (hn : n ≤ 15) (e : gI h 0 0 = nI n) (x k : Int32) (dc : Decidable (∃ i, i < n ∧ x = nI i ∧ gI h 1 i = k)) : fX12_isOf x k h = some (if ∃ i, i < n ∧ x = nI i ∧ gI h 1 i = k then 1 else 0, h) := by
  unfold fX12_isOf
  rw [f_isLoadM (by omega) e, bd_s]
  by_cases c : ∃ i, i < n ∧ x = nI i
  · rw [if_pos c, if_neg (by decide)]
    obtain ⟨i, hi, rfl⟩ := c
    simp only [inb_n (show i < 15 by omega) (by omega), ck_t, nI_clamp (show i < 2 ^ 31 by omega)]
    by_cases c2 : gI h 1 i = k
    · rw [if_pos c2, if_pos ⟨i, hi, rfl, c2⟩]
    · rw [if_neg c2, if_neg]
      rintro ⟨j, hj, h1, h2⟩
      have := (nI_eq (by omega) (by omega)).mp h1
      subst this
      exact c2 h2
  · rw [if_neg c, if_pos rfl, if_neg]
    rintro ⟨j, hj, h1, h2⟩
    exact c ⟨j, hj, h1⟩
section OPQ
variable {hc hm : HS}
/-- is x the number of a load of this kind -/
def isK (hm : HS) (x k : Int32) : Prop := ∃ i, i < nLd hm ∧ x = nI i ∧ gI hm 1 i = k
theorem RR_eC (H : RR hc hm) : gI hc 2 8 = nI (nLd hm) := H.1.1.1.trans (VN_n (RR_VN H)).2
theorem RR_eM (H : RR hc hm) : gI hm 0 0 = nI (nLd hm) := (VN_n (RR_VN H)).2
theorem RR_15 (H : RR hc hm) : nLd hm ≤ 15 := (VN_n (RR_VN H)).1
theorem e_isA (H : RR hc hm) (x k : Int32) (dc : Decidable (isK hm x k)) : fX4_isA x k hc = some (if isK hm x k then 1 else 0, hc) := by
  have dd : Decidable (∃ i, i < nLd hm ∧ x = nI i ∧ gI hc 26 i = k) := Classical.propDecidable _
  rw [e_isAC (RR_15 H) (RR_eC H) x k dd]
  have e : (∃ i, i < nLd hm ∧ x = nI i ∧ gI hc 26 i = k) ↔ isK hm x k := by
    unfold isK
    simp only [H.1.1.2.1]
  by_cases c : isK hm x k
  · rw [if_pos c, if_pos (e.mpr c)]
  · rw [if_neg c, if_neg (fun q => c (e.mp q))]
theorem e_isOf (H : RR hc hm) (x k : Int32) (dc : Decidable (isK hm x k)) : fX12_isOf x k hm = some (if isK hm x k then 1 else 0, hm) := e_isOfM (RR_15 H) (RR_eM H) x k dc
theorem nLd_t (v : Int32) : nLd (pI hm 0 22 v) = nLd hm := rfl
theorem isK_t (v x k : Int32) : isK (pI hm 0 22 v) x k ↔ isK hm x k := by
  unfold isK
  have e : ∀ i, gI (pI hm 0 22 v) 1 i = gI hm 1 i := fun i => by rw [gI_pI, if_neg (by omega)]
  simp only [nLd_t, e]
theorem op_of (H : RR hc hm) (p1 p2 : Int32) : OKT (¬ ((∃ i, i < nLd hm ∧ p1 = nI i) ∧ 0 ≤ p2 ∧ p2 ≤ 4)) (fX11_of p1 p2 hc) (fX12_of p1 p2 hm) hc := by
  have H2 := RR_thrown 0 H
  have hn := RR_15 H
  have eC := RR_eC H
  have eM : gI (pI hm 0 22 0) 0 0 = nI (nLd hm) := RR_eM H2
  simp only [fX11_of, fX12_of, fX12_of_22, f_thereC (show nLd hm < 2 ^ 31 by omega) eC, nm_e1, f_isLoadM (show nLd hm < 2 ^ 31 by omega) eM, f_in, bd_s, if10s]
  obtain ⟨hm', e1, e2, e3⟩ := lostM H
  refine ⟨fun c => ?_, fun c => ?_⟩
  · obtain ⟨⟨i, hi, rfl⟩, c2⟩ := Decidable.not_not.mp c
    have c1 : ∃ j, j < nLd hm ∧ nI i = nI j := ⟨i, hi, rfl⟩
    rw [if_pos c1, if_pos c1, if_pos c2]
    simp only [inb_n (show i < 15 by omega) (by omega), ck_t, nI_clamp (show i < 2 ^ 31 by omega)]
    have g : ∀ b, ¬ b = 0 → gI (pI hm 0 22 0) b i = gI hm b i := fun b hb => by rw [gI_pI, if_neg (fun q => hb q.1)]
    rw [g 1 (by decide), g 2 (by decide), g 3 (by decide), g 4 (by decide), g 5 (by decide)]
    obtain ⟨l1, l2, l3, l4, l5, l6⟩ := H.1.1
    rw [l2 i, l3 i, l4 i, l5 i, l6 i]
    have key : ∀ r : Int32, ∃ r' hc' hm', some (r, hc) = some (r', hc') ∧ some (r, pI hm 0 22 0) = some (r', hm') ∧ gI hm' 0 22 = 0 ∧ RR hc' hm' := fun r => ⟨r, hc, _, rfl, rfl, th0, H2⟩
    by_cases d0 : p2 = 0
    · rw [if_pos d0, if_pos d0]; exact key _
    · rw [if_neg d0, if_neg d0]
      by_cases d1 : p2 = 1
      · rw [if_pos d1, if_pos d1]; exact key _
      · rw [if_neg d1, if_neg d1]
        by_cases d2 : p2 = 2
        · rw [if_pos d2, if_pos d2]; exact key _
        · rw [if_neg d2, if_neg d2]
          by_cases d3 : p2 = 3
          · rw [if_pos d3, if_pos d3]; exact key _
          · rw [if_neg d3, if_neg d3]
            have d4 : p2 = 4 := by
              have r := rngI 0 4 c2
              have t : ∀ z : Int32, ¬ p2 = z → ¬ p2.toInt = z.toInt := fun z hz q => hz (Int32.toInt_inj.mp q)
              have a0 := t 0 d0
              have a1 := t 1 d1
              have a2 := t 2 d2
              have a3 := t 3 d3
              have b0 : (0 : Int32).toInt = 0 := rfl
              have b1 : (1 : Int32).toInt = 1 := by decide +kernel
              have b2 : (2 : Int32).toInt = 2 := by decide +kernel
              have b3 : (3 : Int32).toInt = 3 := by decide +kernel
              have b4 : (4 : Int32).toInt = 4 := by decide +kernel
              apply Int32.toInt_inj.mp
              omega
            rw [if_pos d4]; exact key _
  · by_cases c1 : ∃ i, i < nLd hm ∧ p1 = nI i
    · have c2 : ¬ (0 ≤ p2 ∧ p2 ≤ 4) := fun q => c ⟨c1, q⟩
      rw [if_pos c1, if_neg c2, e1, bd_s]
      exact ⟨_, _, rfl, e2, e3⟩
    · rw [if_neg c1, e1, bd_s]
      exact ⟨_, _, rfl, e2, e3⟩
theorem op_row (H : RR hc hm) (p : Int32) : OKT (¬ (0 ≤ p ∧ p ≤ gI hm 0 21 - 1)) (fX11_row p hc) (fX12_row p hm) hc := by
  have H2 := RR_thrown 0 H
  obtain ⟨w1, t, w2, w3, w4⟩ := H.1.2.2.2.1
  have e : gI (pI hm 0 22 0) 0 21 = gI hm 0 21 := by rw [gI_pI, if_neg (by decide)]
  simp only [fX11_row, fX12_row, f_between, f_in, bd_s, nm_e1, if10s, w1, e]
  obtain ⟨hm', e1, e2, e3⟩ := lostM H
  refine ⟨fun c => ?_, fun c => ?_⟩
  · have c := Decidable.not_not.mp c
    rw [if_pos c, if_pos c]
    rw [w3, i32_ltle (by omega)] at c
    obtain ⟨i, hi, rfl⟩ := c
    simp only [inb_n (show i < 20 by omega) (by omega), inb_n (show i < 24 by omega) (by omega), ck_t, nI_clamp (show i < 2 ^ 31 by omega)]
    rw [w4 i hi, show gI (pI hm 0 22 0) 10 i = gI hm 10 i by rw [gI_pI, if_neg (by omega)]]
    exact ⟨_, _, _, rfl, rfl, th0, H2⟩
  · rw [if_neg c, e1, bd_s]
    exact ⟨_, _, rfl, e2, e3⟩
theorem op_blow (H : RR hc hm) (p1 p2 : Int32) : OK2 (fX11_blow p1 p2 hc) (fX12_blow p1 p2 hm) := by
  have H2 := RR_thrown 0 H
  have d1 : Decidable (isK hm p1 0) := Classical.propDecidable _
  have d2 : Decidable (isK (pI hm 0 22 0) p1 0) := Classical.propDecidable _
  simp only [fX11_blow, fX12_blow, nm_e1, e_isA H p1 0 d1, e_isOf H2 p1 0 d2, bd_s, if10s, f_isDepthC, f_isDepthM, fX11_airFor, fX12_airFor]
  by_cases c : isK hm p1 0
  · rw [if_pos c, if_pos ((isK_t 0 p1 0).mpr c)]
    refine OK2_if (fun cd => ?_) (fun _ => OK2_c H2)
    obtain ⟨i, hi, rfl, hk⟩ := c
    have hn := RR_15 H
    simp only [inb_n (show i < 15 by omega) (by omega), ck_t, nI_clamp (show i < 2 ^ 31 by omega)]
    obtain ⟨l1, l2, l3, l4, l5, l6⟩ := H.1.1
    rw [l6 i, H.1.2.1.2.2.2.2.2.2.2.2.2.1, show gI (pI hm 0 22 0) 5 i = gI hm 5 i by rw [gI_pI, if_neg (by omega)], show gI (pI hm 0 22 0) 0 15 = gI hm 0 15 by rw [gI_pI, if_neg (by omega)], show gI (pI hc 30 i 0) 1 6 = gI hc 1 6 by rw [gI_pI, if_neg (by omega)], H.1.2.1.2.2.2.2.2.2.2.2.2.1]
    generalize hA : (gI hm 5 i * (p2 + 10) + 9) / 10 = A
    refine OK2_if (fun ca => ?_) (fun _ => OK2_c H2)
    rw [show gI (pI (pI hc 30 i 0) 1 6 (gI hm 0 15 - A)) 1 6 = gI hm 0 15 - A by rw [gI_pI, if_pos ⟨rfl, rfl⟩], show gI (pI (pI (pI hm 0 22 0) 0 15 (gI hm 0 15 - A)) 5 i 0) 0 15 = gI hm 0 15 - A by rw [gI_pI, if_neg (by omega), gI_pI, if_pos ⟨rfl, rfl⟩]]
    have S1 : RR (pI hc 30 i 0) (pI hm 5 i 0) := by
      refine RR_has (cg_pI rfl cg_rf) (cg_pI rfl cg_rf) (fun k => ?_) (fun k hk2 => ?_) H
      · simp only [gI_pI, l6]
        first | done | simp
      · obtain ⟨-, -, -, b1, b2, b3⟩ := H.2.1.1.2 k hk2
        rw [gI_pI]
        by_cases ck : k = i
        · subst ck
          simp
          omega
        · simp [ck]
          exact ⟨b1, b2⟩
    have hA0 : 0 ≤ A.toInt := by
      obtain ⟨-, -, -, b1, b2, b3⟩ := H.2.1.1.2 i hi
      have r := rngI 0 600 cd
      have t10 : (10 : Int32).toInt = 10 := by decide +kernel
      have t9 : (9 : Int32).toInt = 9 := by decide +kernel
      have x1 : (p2 + 10).toInt = p2.toInt + 10 := by rw [fb_addI9 (by omega) (by omega), t10]
      have x2 := mul_rng (x := gI hm 5 i) (y := p2 + 10) (a := 999) (b := 610) (by omega) (by omega) (by omega) (by omega)
      have x4 : 0 ≤ (gI hm 5 i * (p2 + 10)).toInt := by rw [x2.1]; exact Int.mul_nonneg b1 (by omega)
      have x3 : (gI hm 5 i * (p2 + 10) + 9).toInt = (gI hm 5 i * (p2 + 10)).toInt + 9 := by rw [fb_addI9 (by omega) (by omega), t9]
      rw [← hA, fb_divI9 (by omega), t10, Int.tdiv_eq_ediv_of_nonneg (by omega)]
      omega
    refine OK2_c (RR_upB (hc := pI hc 30 i 0) (hm := pI hm 5 i 0) (cg_pI rfl cg_rf) ?_ ?_ ?_ S1)
    · intro b j q
      by_cases z1 : b = 5 ∧ j = i
      · obtain ⟨rfl, rfl⟩ := z1
        simp [gI_pI]
      · by_cases z2 : b = 0 ∧ j = 15
        · obtain ⟨rfl, rfl⟩ := z2
          cases q
        · by_cases z3 : b = 0 ∧ j = 22
          · obtain ⟨rfl, rfl⟩ := z3
            cases q
          · rw [gI_pI, if_neg z1, gI_pI, if_neg z2, gI_pI, if_neg z3, gI_pI, if_neg z1]
    · have hb := H.1.2.1
      simp only [RB] at hb
      simp [RB, gI_pI, gI_pIr, hb]
    · have hi2 := H.2.1.2.1
      simp only [IB, VY, nLy] at hi2
      have ca' := i32_le.mp ca
      have x5 : (gI hm 0 15 - A).toInt = (gI hm 0 15).toInt - A.toInt := fb_subI9 (by omega) (by omega)
      have x6 : 0 ≤ (gI hm 0 15 - A).toInt ∧ (gI hm 0 15 - A).toInt ≤ 99999 := by omega
      clear x5
      generalize gI hm 0 15 - A = B at x6 ⊢
      simp [IB, VY, nLy, gI_pI, gI_pIr, hi2, x6]
      exact hi2.2.2.2.2.2.2.1
  · rw [if_neg c, if_neg (fun q => c ((isK_t 0 p1 0).mp q))]
    exact OK2_c H2
end OPQ
