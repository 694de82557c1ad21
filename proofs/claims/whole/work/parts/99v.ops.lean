section TLO
variable {hc hm : HS}
theorem RG1_ct {hc' hm' : HS} {t : Nat} (ht : t < 6) (c1 : ∀ w, gI hc' (46 + t) w = gI hc (46 + t) w) (c2 : ∀ w, gI hc' (53 + t) w = gI hc (53 + t) w) (m1 : gI hm' 22 t = gI hm 22 t) (m2 : ∀ j, 64 * t ≤ j → j < 64 * t + 64 → gI hm' 23 j = gI hm 23 j) (m3 : gI hm' 0 0 = gI hm 0 0) (m4 : ∀ j, gI hm' 2 j = gI hm 2 j) (m5 : ∀ j, gI hm' 3 j = gI hm 3 j) (R : RG1 hc hm t) : RG1 hc' hm' t := by
  obtain ⟨q, hq, e22, ok, su⟩ := R
  have s0 : ∀ j, j < q → tS hm' t j = tS hm t j := fun j hj => m2 _ (by omega) (by omega)
  have s1 : ∀ j, j < q → tA hm' t j = tA hm t j := fun j hj => m2 _ (by omega) (by omega)
  have s2 : ∀ j, j < q → tO hm' t j = tO hm t j := fun j hj => m2 _ (by omega) (by omega)
  have s3 : ∀ j, j < q → tV hm' t j = tV hm t j := fun j hj => m2 _ (by omega) (by omega)
  have en : nLd hm' = nLd hm := by unfold nLd; rw [m3]
  have ew : ∀ w a, cW hm' w a = cW hm w a := fun w a => by unfold cW; rw [m4, m5]
  refine ⟨q, hq, by rw [m1, e22], fun j hj => ?_, fun w hw => ?_⟩
  · have := ok j hj
    unfold tOK at this ⊢
    rw [s0 j hj, s1 j hj, s2 j hj, en]
    exact this
  · obtain ⟨u1, u2⟩ := su w hw
    rw [(rowMo_pl hc ht).1] at u1
    rw [(rowMo_pl hc ht).2] at u2
    rw [(rowMo_pl hc' ht).1, (rowMo_pl hc' ht).2, c1, c2, u1, u2]
    refine ⟨sL_cg (fun j hj => ?_), sL_cg (fun j hj => ?_)⟩
    · rw [moF_e, moF_e]
      show (if tS hm t j = 98 then cW hm w (tA hm t j).toNatClampNeg * tV hm t j else 0) = if tS hm' t j = 98 then cW hm' w (tA hm' t j).toNatClampNeg * tV hm' t j else 0
      rw [s0 j hj, s1 j hj, s3 j hj, ew]
    · rw [hoF_e, hoF_e]
      show (if tS hm t j = 98 then 0 else if tS hm t j = 118 then cW hm w (tA hm t j).toNatClampNeg * (-tV hm t j) + cW hm w (tO hm t j).toNatClampNeg * tV hm t j else cW hm w (tA hm t j).toNatClampNeg * tV hm t j) = if tS hm' t j = 98 then 0 else if tS hm' t j = 118 then cW hm' w (tA hm' t j).toNatClampNeg * (-tV hm' t j) + cW hm' w (tO hm' t j).toNatClampNeg * tV hm' t j else cW hm' w (tA hm' t j).toNatClampNeg * tV hm' t j
      rw [s0 j hj, s1 j hj, s2 j hj, s3 j hj, ew, ew]
theorem sL_fold {α : Type} {f : α → Int32} {g : Nat → Int32} : ∀ (L : List α) (c : Nat), (∀ i x, L[i]? = some x → g (c + i) = f x) → L.foldl (fun s x => s + f x) (sL g c) = sL g (c + L.length)
  | [], c, _ => rfl
  | x :: L, c, h => by
    have h0 := h 0 x (by rw [List.getElem?_cons_zero])
    rw [Nat.add_zero] at h0
    have := sL_fold (f := f) (g := g) L (c + 1) (fun i y e => by
      have := h (i + 1) y (by rw [List.getElem?_cons_succ]; exact e)
      rw [show c + 1 + i = c + (i + 1) by omega]
      exact this)
    rw [List.foldl_cons, List.length_cons, show c + (L.length + 1) = c + 1 + L.length by omega, ← this, ← h0]
    rfl
theorem op_telling (H : RR hc hm) : OK2 (fX11_telling hc) (fX12_telling hm) := by
  obtain ⟨t1, t2, ⟨s, hs, es⟩, t4⟩ := H.1.2.2.1
  obtain ⟨g1, g2, g3, g4, g5, g6, ⟨t, ht6, et, gt⟩, g8⟩ := H.1.2.2.2.2.2.2.1
  have n15 := RR_15 H
  obtain ⟨N, eN⟩ : ∃ N, N = nLd hm := ⟨_, rfl⟩
  have hN : N ≤ 15 := by omega
  have e28 : gI hc 2 8 = nI N := by rw [eN]; exact RR_eC H
  have e00 : gI hm 0 0 = nI N := by rw [eN]; exact RR_eM H
  obtain ⟨u, eu⟩ : ∃ u, u = min s 30 := ⟨_, rfl⟩
  obtain ⟨c0, ec0⟩ : ∃ y, y = pI hc 0 5 0 := ⟨_, rfl⟩
  obtain ⟨m0, em0⟩ : ∃ y, y = pI (pI hm 0 22 0) 0 19 0 := ⟨_, rfl⟩
  have gc0 : ∀ b j, ¬ (b = 0 ∧ j = 5) → gI c0 b j = gI hc b j := fun b j z => by rw [ec0, gI_pI, if_neg z]
  have gm0 : ∀ b j, ¬ (b = 0 ∧ (j = 22 ∨ j = 19)) → gI m0 b j = gI hm b j := fun b j z => by rw [em0, gI_pI, if_neg (by omega), gI_pI, if_neg (by omega)]
  have HT : RR c0 m0 := by
    rw [ec0, em0]
    refine RR_upT (cg_pI rfl cg_rf) (cg_pI rfl (cg_pI rfl cg_rf)) ?_ H
    exact ⟨by simp [gI_pI], fun k => by simp [gI_pI, t2], ⟨0, by omega, by rw [gI_pI, if_pos ⟨rfl, rfl⟩, nI_0]⟩, fun k => by simp [gI_pI, t4]⟩
  -- the model
  obtain ⟨hM, eM⟩ : ∃ y, y = pI (bgM (pI hm 0 22 0) 9 (nI s) 30) 0 19 0 := ⟨_, rfl⟩
  have fM : ∀ b j, ¬ (b = 0 ∧ 26 ≤ j ∧ j ≤ 30) → gI hM b j = gI m0 b j := fun b j z => by
    rw [eM, em0, gI_pI, gI_pI]
    by_cases y : b = 0 ∧ j = 19
    · rw [if_pos y, if_pos y]
    · rw [if_neg y, if_neg y, bgM_g b j z]
  have m27 : gI hM 0 27 = nI s := by rw [eM, gI_pI, if_neg (by decide)]; unfold bgM; rw [gI_pI, if_neg (by decide), gI_pI, if_neg (by decide), gI_pI, if_neg (by decide), gI_pI, if_pos ⟨rfl, rfl⟩]
  have m28 : gI hM 0 28 = nI 30 := by rw [eM, gI_pI, if_neg (by decide)]; unfold bgM; rw [gI_pI, if_neg (by decide), gI_pI, if_neg (by decide), gI_pI, if_pos ⟨rfl, rfl⟩]; decide
  have m29 : gI hM 0 29 = nI 0 := by rw [eM, gI_pI, if_neg (by decide)]; unfold bgM; rw [gI_pI, if_neg (by decide), gI_pI, if_pos ⟨rfl, rfl⟩, nI_0]
  have m30 : gI hM 0 30 = -1 := by rw [eM, gI_pI, if_neg (by decide)]; unfold bgM; rw [gI_pI, if_pos ⟨rfl, rfl⟩]
  have mr : gR hM 0 26 = some 9 := by rw [eM]; rfl
  have tI : ∀ (A k : Nat) (y : HS) (v : Int32), gI y A k = v → pI y A k v = y := fun A k y v e => by rw [← e, pI_self]
  have spM : pI hM 0 29 (nI 0) = hM := tI _ _ _ _ m29
  have g19 : gI (pI hm 0 22 0) 0 19 = nI s := by rw [gI_pI, if_neg (by decide), es]
  have g50 : gI (pI hm 0 22 0) 0 50 = nI t := by rw [gI_pI, if_neg (by decide), et]
  have kz : ∀ b j, kmA b j = true → ¬ (b = 0 ∧ 26 ≤ j ∧ j ≤ 30) := fun b j q => by
    rintro ⟨rfl, w⟩
    simp only [kmA, Bool.or_eq_true, beq_iff_eq] at q
    omega
  have c83 : gI c0 8 3 = nI t := by rw [gc0 8 3 (by decide), g1, et]
  have FC : fX11_telling hc = if nI t < 6 then (bd (fX9_read 16 (nI s) c0) (fun r5 h4 => if r5 = (-1 : Int32) then (some (((gI h4 8 3) - (1 : Int32)), h4)) else (some (((-1 : Int32) - r5), h4)))) else (some ((-100 : Int32), c0)) := by
    unfold fX11_telling
    rw [nm_e1, nm_e1, t1, es, ← ec0, c83]
  by_cases q6 : t = 6
  · have FM : fX12_telling hm = some (-100, hM) := by
      unfold fX12_telling fX12_telling_19
      rw [nm_e1, g50, if_pos (by rw [q6]; decide), g19, e_beginM, bv_s, nm_e1, ← eM, if_neg (by decide)]
    rw [FC, FM, if_neg (by rw [q6]; decide)]
    exact OK2_c (RR_cg cg_rf (fun b j q => fM b j (kz b j q)) HT)
  have ht : t < 6 := by omega
  have n6 : ¬ nI t = 6 := fun z => by
    rw [show (6 : Int32) = nI 6 by decide, nI_eq (by omega) (by omega)] at z
    exact q6 z
  have FM : fX12_telling hm = if nI s ≤ 0 then fX12_telling_61 FU 0 0 hM else fX12_telling_61 FU 0 1 hM := by
    unfold fX12_telling fX12_telling_19
    rw [nm_e1, g50, if_neg n6, g19, e_beginM, bv_s, nm_e1, ← eM, if_pos rfl, m27]
  -- the class
  obtain ⟨hz, z1, z2, z3⟩ := c_zero (h := c0) (n := FU - 4) (p1 := 16) (v2 := nI s) ht c83
  have fu : FU - 4 + 4 = FU := by
    have := FU_gt (show 4 < 40000 by omega)
    omega
  rw [fu] at z1
  obtain ⟨hC, eC⟩ : ∃ y, y = bgC 15 hz 16 0 (nI u) := ⟨_, rfl⟩
  have fC : ∀ b j, ¬ b = 15 → gI hC b j = gI hz b j := fun b j z => by rw [eC]; exact bgC_g b j (fun y => z y.1)
  have fz : ∀ b j, ¬ b = 46 + t → ¬ b = 53 + t → ¬ (b = 0 ∧ j = 5) → gI hz b j = gI hc b j := fun b j w1 w2 w3 => by rw [z2.2 b j w1 w2, gc0 b j w3]
  have c1 : gI hC 15 1 = nI u := by rw [eC]; unfold bgC; rw [gI_pI, if_neg (by decide), gI_pI, if_pos ⟨rfl, rfl⟩]
  have c2 : gI hC 15 2 = nI 0 := by rw [eC]; unfold bgC; rw [gI_pI, if_neg (by decide), gI_pI, if_neg (by decide), gI_pI, if_pos ⟨rfl, rfl⟩, nI_0]
  have c3 : gI hC 15 3 = -1 := by rw [eC]; unfold bgC; rw [gI_pI, if_pos ⟨rfl, rfl⟩]
  have cr : gR hC 15 0 = some 16 := by
    rw [eC]
    unfold bgC
    rw [gR_pI, gR_pI, gR_pI, gR_pR, if_pos ⟨rfl, rfl⟩]
  have eb : fX2_begin 15 16 0 (imin (nI s) 30) hz = some hC := by
    have i1 : imax 0 (0 : Int32) = 0 := by first | decide | rfl
    have i2 : imin (imin (nI s) 30) (Int32.ofNat 80) = nI u := Int32.toInt_inj.mp (by rw [imin_toInt, imin_toInt, show Int32.ofNat 80 = nI 80 from rfl, show (30 : Int32) = nI 30 by decide, nI_toInt (by omega), nI_toInt (by omega), nI_toInt (by omega), nI_toInt (by omega)]; omega)
    rw [e_beginC (A := 15) (q := 16) (n := 80) hz 0 (imin (nI s) 30) (by decide), i1, i2, eC]
  have K : KT hC (gI hm 9) u N t (gI hc 27) (gI hc 28) := ⟨c1, c3, cr, fun k _ => by rw [fC 16 k (by decide), fz 16 k (by omega) (by omega) (by omega), t2 k], by rw [fC 2 8 (by decide), fz 2 8 (by omega) (by omega) (by omega), e28], by rw [fC 8 3 (by decide), fz 8 3 (by omega) (by omega) (by omega), g1, et], fun j => by rw [fC 27 j (by decide), fz 27 j (by omega) (by omega) (by omega)], fun j => by rw [fC 28 j (by decide), fz 28 j (by omega) (by omega) (by omega)]⟩
  have sp : pI hC 15 2 (nI 0) = hC := tI _ _ _ _ c2
  have KMM : KM hM (gI hm 9) s N t := ⟨m27, m28, m30, mr, funext fun k => by rw [fM 9 k (by omega), gm0 9 k (by omega)], by rw [fM 0 0 (by omega), gm0 0 0 (by omega), e00], by rw [fM 0 50 (by omega), gm0 0 50 (by omega), et]⟩
  -- both states: tellings before this one are as they were
  have old : ∀ (hE mE : HS), (∀ b j, ¬ b = 15 → ¬ b = 46 + t → ¬ b = 53 + t → ¬ (b = 8 ∧ j = 3) → gI hE b j = gI hC b j) → (∀ b j, ¬ (b = 0 ∧ 26 ≤ j ∧ j ≤ 30) → ¬ (b = 23 ∧ 64 * t ≤ j) → ¬ (b = 22 ∧ j = t) → ¬ (b = 0 ∧ j = 50) → gI mE b j = gI hM b j) → (∀ t', t' < t → RG1 hE mE t') := by
    intro hE mE f1 f2 t' ht'
    refine RG1_ct (hc := hc) (hm := hm) (by omega) (fun w => ?_) (fun w => ?_) ?_ (fun j j1 j2 => ?_) ?_ (fun j => ?_) (fun j => ?_) (gt t' ht')
    · rw [f1 _ w (by omega) (by omega) (by omega) (by omega), fC _ w (by omega), fz _ w (by omega) (by omega) (by omega)]
    · rw [f1 _ w (by omega) (by omega) (by omega) (by omega), fC _ w (by omega), fz _ w (by omega) (by omega) (by omega)]
    · rw [f2 22 t' (by omega) (by omega) (by omega) (by omega), fM 22 t' (by omega), gm0 22 t' (by omega)]
    · rw [f2 23 j (by omega) (by omega) (by omega) (by omega), fM 23 j (by omega), gm0 23 j (by omega)]
    · rw [f2 0 0 (by omega) (by omega) (by omega) (by omega), fM 0 0 (by omega), gm0 0 0 (by omega)]
    · rw [f2 2 j (by omega) (by omega) (by omega) (by omega), fM 2 j (by omega), gm0 2 j (by omega)]
    · rw [f2 3 j (by omega) (by omega) (by omega) (by omega), fM 3 j (by omega), gm0 3 j (by omega)]
  have all : ∀ (hE mE : HS) (t' : Nat), t' ≤ 6 → (∀ b j, ¬ b = 15 → ¬ b = 46 + t → ¬ b = 53 + t → ¬ (b = 8 ∧ j = 3) → gI hE b j = gI hC b j) → (∀ b j, ¬ (b = 0 ∧ 26 ≤ j ∧ j ≤ 30) → ¬ (b = 23 ∧ 64 * t ≤ j) → ¬ (b = 22 ∧ j = t) → ¬ (b = 0 ∧ j = 50) → gI mE b j = gI hM b j) → gI hE 8 3 = nI t' → gI mE 0 50 = nI t' → (∀ k, k < t' → RG1 hE mE k) → RR hE mE := by
    intro hE mE t' h6 f1 f2 a1 a2 a3
    have C : ∀ b j, ¬ b = 15 → ¬ b = 46 + t → ¬ b = 53 + t → ¬ (b = 8 ∧ j = 3) → ¬ (b = 0 ∧ j = 5) → gI hE b j = gI hc b j := fun b j w1 w2 w3 w4 w5 => by rw [f1 b j w1 w2 w3 w4, fC b j w1, fz b j w2 w3 w5]
    have M : ∀ b j, ¬ (b = 0 ∧ 26 ≤ j ∧ j ≤ 30) → ¬ b = 23 → ¬ b = 22 → ¬ (b = 0 ∧ j = 50) → gI mE b j = gI m0 b j := fun b j w1 w2 w3 w4 => by rw [f2 b j w1 (fun y => w2 y.1) (fun y => w3 y.1) w4, fM b j w1]
    refine RR_upG (hc := c0) (hm := m0) (fun b j q => ?_) (fun b j q => ?_) ?_ HT
    · have w1 : ¬ b = 15 := by rintro rfl; cases q
      have w2 : b < 46 ∨ 59 < b := by
        by_cases y : b < 46 ∨ 59 < b
        · exact y
        · exfalso
          have : b = 46 ∨ b = 47 ∨ b = 48 ∨ b = 49 ∨ b = 50 ∨ b = 51 ∨ b = 52 ∨ b = 53 ∨ b = 54 ∨ b = 55 ∨ b = 56 ∨ b = 57 ∨ b = 58 ∨ b = 59 := by omega
          rcases this with rfl | rfl | rfl | rfl | rfl | rfl | rfl | rfl | rfl | rfl | rfl | rfl | rfl | rfl <;> cases q
      have w8 : ¬ b = 8 := by rintro rfl; cases q
      rw [f1 b j w1 (by omega) (by omega) (fun y => w8 y.1), fC b j w1, z2.2 b j (by omega) (by omega)]
    · refine M b j ?_ (by rintro rfl; cases q) (by rintro rfl; cases q) ?_
      · rintro ⟨rfl, y⟩
        simp only [kmUG, Bool.or_eq_true, beq_iff_eq] at q
        omega
      · rintro ⟨rfl, y⟩
        simp only [kmUG, Bool.or_eq_true, beq_iff_eq] at q
        omega
    · obtain ⟨gg, gg1, gg2, gg3⟩ := g8
      have M' : ∀ b j, ¬ b = 0 → ¬ b = 23 → ¬ b = 22 → gI mE b j = gI hm b j := fun b j w1 w2 w3 => by rw [M b j (fun y => w1 y.1) w2 w3 (fun y => w1 y.1), gm0 b j (fun y => w1 y.1)]
      have c53 : gI mE 0 53 = gI hm 0 53 := by rw [M 0 53 (by omega) (by omega) (by omega) (by omega), gm0 0 53 (by omega)]
      refine ⟨by rw [a1, a2], ?_, fun k => ?_, fun k => ?_, fun k => ?_, fun k => ?_, ⟨t', h6, a2, a3⟩, gg, gg1, by rw [c53, gg2], fun k hk => ?_⟩
      · rw [C 8 6 (by omega) (by omega) (by omega) (by omega) (by omega), g2, c53]
      · rw [C 59 k (by omega) (by omega) (by omega) (by omega) (by omega), g3, M' 24 k (by omega) (by omega) (by omega)]
      · rw [C 60 k (by omega) (by omega) (by omega) (by omega) (by omega), g4, M' 25 k (by omega) (by omega) (by omega)]
      · rw [C 61 k (by omega) (by omega) (by omega) (by omega) (by omega), g5, M' 26 k (by omega) (by omega) (by omega)]
      · rw [C 62 k (by omega) (by omega) (by omega) (by omega) (by omega), g6, M' 27 k (by omega) (by omega) (by omega)]
      · rw [M' 24 k (by omega) (by omega) (by omega), M' 25 k (by omega) (by omega) (by omega), M' 26 k (by omega) (by omega) (by omega)]
        exact gg3 k hk
  have hC83 : gI hC 8 3 = nI t := K.2.2.2.2.2.1
  have hM50 : gI hM 0 50 = nI t := KMM.2.2.2.2.2.2
  -- a fault
  have bad : ∀ (f : Nat) (hG hF mF : HS), f ≤ 60 → fX2_finish 15 (nI s) hG = some (nI f, hF) → FT t hC hF → FQ t hM mF → OK2 (bd (fX9_read_90 16 (nI s) hG) (fun r5 h4 => if r5 = (-1 : Int32) then (some (((gI h4 8 3) - (1 : Int32)), h4)) else (some (((-1 : Int32) - r5), h4)))) (some (-1 - nI f, mF)) := by
    intro f hG hF mF hf ef f1 f2
    have nf : ¬ nI f = -1 := fun z => m1_ne (by omega) z.symm
    have e8 : gI hF 8 3 = nI t := by rw [f1 8 3 (by omega) (by omega) (by omega), hC83]
    unfold fX9_read_90
    rw [ef, bd_s, if_neg nf, nm_e1, Int32.add_zero, pI_self, bd_s, if_neg nf]
    have e50 : gI mF 0 50 = nI t := by rw [f2 0 50 (by omega) (by omega), hM50]
    refine OK2_c (all hF mF t (by omega) (fun b j w1 w2 w3 _ => f1 b j w1 w2 w3) (fun b j w1 w2 w3 w4 => f2 b j (by omega) w2) e8 e50 (old hF mF (fun b j w1 w2 w3 _ => f1 b j w1 w2 w3) (fun b j w1 w2 w3 w4 => f2 b j (by omega) w2)))
  -- all is well
  have fin : ∀ (L : List PTm) (e k : Nat) (h' m' : HS), s ≤ e → e ≤ u → L.length ≤ 16 → KT h' (gI hm 9) u N t (gI hc 27) (gI hc 28) → FT t hC h' → gI h' 15 2 = nI e → (∀ w, w < 3 → gI h' (46 + t) w = L.foldl (fun s tm => s + moT (gI hc 27) (gI hc 28) w tm) 0 ∧ gI h' (53 + t) w = L.foldl (fun s tm => s + hoT (gI hc 27) (gI hc 28) w tm) 0) → (∀ tm, tm ∈ L → tmOK N tm) → KM m' (gI hm 9) s N t → FQ t hM m' → (∀ i tm, L[i]? = some tm → TMat m' (4 * (16 * t + i)) tm) → OK2 (bd (fX9_read_90 16 (nI s) h') (fun r5 h4 => if r5 = (-1 : Int32) then (some (((gI h4 8 3) - (1 : Int32)), h4)) else (some (((-1 : Int32) - r5), h4)))) (fX12_telling_61 (k + 1) (nI L.length) 0 (pI m' 0 29 (nI e))) := by
    intro L e k h' m' h1 h2 h3 k1 f1 e2 rows oks k2 f2 ats
    have us : u = s := by omega
    have T := KT_T k1 (by omega) t4
    have ok := fin_ok T h1 (show e ≤ 60 by omega) (by rw [k1.1, us])
    rw [tI _ _ _ _ e2] at ok
    have e8 : gI h' 8 3 = nI t := k1.2.2.2.2.2.1
    have g27 : gI (pI m' 0 29 (nI e)) 0 27 = nI s := by rw [gI_pI, if_neg (by decide), k2.1]
    have g50' : gI (pI m' 0 29 (nI e)) 0 50 = nI t := by rw [gI_pI, if_neg (by decide), k2.2.2.2.2.2.2]
    have g50'' : gI (pI (pI m' 0 29 (nI e)) 22 t (nI L.length)) 0 50 = nI t := by rw [gI_pI, if_neg (by omega), g50']
    obtain ⟨hE, eE⟩ : ∃ y, y = pI h' 8 3 (nI (t + 1)) := ⟨_, rfl⟩
    obtain ⟨mE, emE⟩ : ∃ y, y = pI (pI (pI m' 0 29 (nI e)) 22 t (nI L.length)) 0 50 (nI (t + 1)) := ⟨_, rfl⟩
    have E8 : gI hE 8 3 = nI (t + 1) := by rw [eE, gI_pI, if_pos ⟨rfl, rfl⟩]
    have E50 : gI mE 0 50 = nI (t + 1) := by rw [emE, gI_pI, if_pos ⟨rfl, rfl⟩]
    unfold fX9_read_90
    rw [ok, bd_s, if_pos rfl, nm_e1, e8, nI_1, bd_s, if_pos rfl, ← eE, E8, fX12_telling_61, if_pos rfl, g27, g29, if_pos (nI_le h1 (by omega)), g50', inb_n (show t < 6 by omega) (by omega), ck_t, nI_clamp (by omega), nm_e1, g50'', nI_1, nm_e1, ← emE, E50]
    have fE : ∀ b j, ¬ b = 15 → ¬ b = 46 + t → ¬ b = 53 + t → ¬ (b = 8 ∧ j = 3) → gI hE b j = gI hC b j := fun b j w1 w2 w3 w4 => by rw [eE, gI_pI, if_neg w4, f1 b j w1 w2 w3]
    have fmE : ∀ b j, ¬ (b = 0 ∧ 26 ≤ j ∧ j ≤ 30) → ¬ (b = 23 ∧ 64 * t ≤ j) → ¬ (b = 22 ∧ j = t) → ¬ (b = 0 ∧ j = 50) → gI mE b j = gI hM b j := fun b j w1 w2 w3 w4 => by rw [emE, gI_pI, if_neg w4, gI_pI, if_neg w3, gI_pI, if_neg (by omega), f2 b j (by omega) w2]
    have a23 : ∀ j, gI mE 23 j = gI m' 23 j := fun j => by rw [emE, gI_pI, if_neg (by omega), gI_pI, if_neg (by omega), gI_pI, if_neg (by omega)]
    refine OK2_c (all hE mE (t + 1) (by omega) fE fmE E8 E50 (fun j hj => ?_))
    by_cases c : j < t
    · exact old hE mE fE fmE j c
    · have : j = t := by omega
      subst this
      have en : nLd mE = N := by
        unfold nLd
        rw [fmE 0 0 (by omega) (by omega) (by omega) (by omega), KMM.2.2.2.2.2.1, nI_clamp (by omega)]
      have cw : ∀ w a, cW mE w a = cwT (gI hc 27) (gI hc 28) w a := fun w a => by
        unfold cW cwT
        rw [fmE 2 a (by omega) (by omega) (by omega) (by omega), fmE 3 a (by omega) (by omega) (by omega) (by omega), fM 2 a (by omega), fM 3 a (by omega), gm0 2 a (by omega), gm0 3 a (by omega), H.1.1.2.2.1, H.1.1.2.2.2.1]
      have at4 : ∀ i tm, L[i]? = some tm → tS mE j i = tm.1 ∧ tA mE j i = nI tm.2.1 ∧ tO mE j i = (if tm.1 = 118 then nI tm.2.2.1 else -1) ∧ tV mE j i = tm.2.2.2 := fun i tm hi => by
        obtain ⟨a1, a2, a3, a4⟩ := ats i tm hi
        unfold tS tA tO tV
        rw [a23, a23, a23, a23]
        exact ⟨a1, a2, a3, a4⟩
      refine ⟨L.length, h3, ?_, fun i hi => ?_, fun w hw => ?_⟩
      · rw [emE, gI_pI, if_neg (by omega), gI_pI, if_pos ⟨rfl, rfl⟩]
      · obtain ⟨tm, hL⟩ : ∃ q, L[i]? = some q := ⟨L[i], List.getElem?_eq_getElem hi⟩
        obtain ⟨a1, a2, a3, a4⟩ := at4 i tm hL
        obtain ⟨o1, o2, o3⟩ := oks tm (List.mem_of_getElem? hL)
        unfold tOK
        rw [a1, a2, a3, en]
        refine ⟨o1, ⟨_, o2, rfl⟩, fun z => ?_⟩
        obtain ⟨o4, o5⟩ := o3 z
        rw [if_pos z]
        exact ⟨_, o4, rfl, fun y => o5 (by rw [nI_eq (by omega) (by omega)] at y; exact y)⟩
      · obtain ⟨r1, r2⟩ := rows w hw
        have x1 : gI hE (46 + j) w = gI h' (46 + j) w := by rw [eE, gI_pI, if_neg (by omega)]
        have x2 : gI hE (53 + j) w = gI h' (53 + j) w := by rw [eE, gI_pI, if_neg (by omega)]
        have s1 := sL_fold (f := moT (gI hc 27) (gI hc 28) w) (g := moF mE w j) L 0 (fun i tm hi => by
          obtain ⟨a1, a2, a3, a4⟩ := at4 i tm hi
          have := (oks tm (List.mem_of_getElem? hi)).2.1
          rw [Nat.zero_add, moF_e]
          show (if tS mE j i = 98 then cW mE w (tA mE j i).toNatClampNeg * tV mE j i else 0) = if tm.1 = 98 then cwT (gI hc 27) (gI hc 28) w tm.2.1 * tm.2.2.2 else 0
          rw [a1, a2, a4, nI_clamp (by omega), cw])
        have s2 := sL_fold (f := hoT (gI hc 27) (gI hc 28) w) (g := hoF mE w j) L 0 (fun i tm hi => by
          obtain ⟨a1, a2, a3, a4⟩ := at4 i tm hi
          obtain ⟨-, o2, o3⟩ := oks tm (List.mem_of_getElem? hi)
          rw [Nat.zero_add, hoF_e]
          show (if tS mE j i = 98 then 0 else if tS mE j i = 118 then cW mE w (tA mE j i).toNatClampNeg * (-tV mE j i) + cW mE w (tO mE j i).toNatClampNeg * tV mE j i else cW mE w (tA mE j i).toNatClampNeg * tV mE j i) = if tm.1 = 98 then 0 else if tm.1 = 118 then cwT (gI hc 27) (gI hc 28) w tm.2.1 * (-tm.2.2.2) + cwT (gI hc 27) (gI hc 28) w tm.2.2.1 * tm.2.2.2 else cwT (gI hc 27) (gI hc 28) w tm.2.1 * tm.2.2.2
          rw [a1, a2, a3, a4, nI_clamp (show tm.2.1 < 2 ^ 31 by omega), cw]
          by_cases c1 : tm.1 = 98
          · rw [if_pos c1, if_pos c1]
          · rw [if_neg c1, if_neg c1]
            by_cases c2 : tm.1 = 118
            · have o4 := (o3 c2).1
              rw [if_pos c2, if_pos c2, if_pos c2, nI_clamp (show tm.2.2.1 < 2 ^ 31 by omega), cw]
            · rw [if_neg c2, if_neg c2])
        rw [(rowMo_pl hE ht).1, (rowMo_pl hE ht).2, x1, x2, r1, r2]
        rw [Nat.zero_add] at s1 s2
        exact ⟨s1, s2⟩
  have FU1 : ∃ w, FU = w + 1 := fuel1 (FU_gt (show 0 < 40000 by omega))
  rw [FC, FM, if_pos (show nI t < 6 by rw [show (6 : Int32) = nI 6 by decide]; exact nI_lt ht (by omega))]
  unfold fX9_read
  rw [z1, eb, bv_s]
  by_cases s0 : s = 0
  · obtain ⟨w, ew⟩ := FU1
    have T := KT_T K (by omega) t4
    have ch0 : ¬ chT (gI hm 9) u 0 = 59 := by unfold chT; rw [if_neg (by omega)]; decide
    have le0 : nI s ≤ 0 := by rw [s0, nI_0]; decide
    have tk : fX2_take 15 59 hC = some (0, hC) := by
      have q := c_take T (a := 0) (by omega) (p := 59) (by decide)
      rw [if_neg ch0, sp] at q
      exact q
    have R : fX9_read_62 16 FU (nI s) 0 hC = fX9_read_90 16 (nI s) hC := by
      rw [ew, fX9_read_62, if_neg (by decide), tk, bd_s, if_pos rfl]
    have F := fin [] 0 w hC hM (by omega) (by omega) (by decide) K (fun _ _ _ _ _ => rfl) c2 (fun w hw => by rw [fC _ _ (by omega), fC _ _ (by omega)]; exact z3 w hw) (fun tm h => by cases h) KMM (fun _ _ _ _ => rfl) (fun i tm e => by rw [List.getElem?_nil] at e; cases e)
    rw [spM, List.length_nil, nI_0, ← ew] at F
    rw [if_pos le0, if_pos le0, R]
    exact F
  · have n0 : ¬ nI s ≤ 0 := by rw [← nI_0]; exact nI_ge (by omega) (by omega)
    rw [if_neg n0, if_neg n0]
    have G : ∀ a tm e, a ≤ 60 → pTm (chT (gI hm 9) (min s 30)) N a = .inr (tm, e) → a + 4 ≤ e := fun a tm e ha q => by
      rw [← eu] at q
      rcases c_tm (a := a) hN ht (by omega) t4 (KT_2 (v := nI a) K) g22 ha with ⟨f, hF, q1, -⟩ | ⟨tm', e', h', q1, q2, -⟩
      · rw [q1] at q; cases q
      · rw [q1] at q
        have := congrArg Prod.snd (Sum.inr.inj q)
        have y : e' = e := this
        omega
    have C := c_tl hN ht (show u ≤ 60 by omega) t4 16 (nI s) 61 0 0 FU hC (by omega) (by omega) (by omega) (FU_gt (by omega)) K c2
    have Mm := m_tl (m := gI hm 9) (s := s) hN ht hs G 61 0 0 FU hM KMM (by omega) (by omega) (by omega) (FU_gt (by omega))
    rw [spM, ← eu] at Mm
    rw [nI_0] at C Mm
    rcases C with ⟨f, hF, p1, p2, p3, p4, p5⟩ | ⟨L, e, h', p1, p2, p3, p4, p5, p6, p7, p8, p9, p10⟩
    · rcases Mm with ⟨f', mF, q1, q2, q3, q4⟩ | ⟨L', e', k, m', q1, -⟩
      · have ef : f = f' := Sum.inl.inj (p1.symm.trans q1)
        subst ef
        have B : bdC 15 hF := by unfold bdC; rw [p4]; exact fun z => m1_ne (by omega) z.symm
        rw [p3, q3]
        exact bad f hF hF mF p2 (by rw [fin_B B, p4]) p5 q4
      · rw [p1] at q1; cases q1
    · rcases Mm with ⟨f', mF, q1, -⟩ | ⟨L', e', k, m', q1, q2, q3, q4, q5, q6, q7⟩
      · rw [p1] at q1; cases q1
      · have q8 := Sum.inr.inj (p1.symm.trans q1)
        have eL : L = L' := congrArg Prod.fst q8
        have ee : e = e' := congrArg Prod.snd q8
        subst eL
        subst ee
        rw [p6, q3, Nat.zero_add]
        by_cases c : s ≤ e
        · refine fin L e k h' m' c p3 (by omega) p8 p9 p7 (fun w hw => ?_) p5 q4 q5 (fun i tm hi => ?_)
          · have := p10 w hw
            rw [fC _ _ (by omega), fC _ _ (by omega), (z3 w hw).1, (z3 w hw).2] at this
            exact this
          · have := q7 i tm hi
            rw [Nat.zero_add] at this
            exact this
        · have T := KT_T p8 (by omega) t4
          have fb := fin_bad (m := 30) T eu (by omega) hs (show e < s by omega) (by omega) p8.1
          rw [tI _ _ _ _ p7] at fb
          have g27 : gI (pI m' 0 29 (nI e)) 0 27 = nI s := by rw [gI_pI, if_neg (by decide), q4.1]
          rw [fX12_telling_61, if_pos rfl, g27, g29, if_neg (nI_ge (by omega) (by omega))]
          exact bad e h' _ _ (by omega) fb (FT_t p9 FT_p) (fun b j w1 w2 => by rw [gI_pI, if_neg (by omega), q5 b j w1 w2])
end TLO
