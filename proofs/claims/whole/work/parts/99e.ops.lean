section LIN
variable {hc hm : HS}
/-- every line of the book can be read -/
def BKo (h : HS) : Prop := ∀ q s, q ≤ 15 → s ≤ 60 → gI h 0 31 = nI q → gI h 0 32 = nI s → ∀ i, i < q → ∀ p, p ≤ s → gI h 13 i = nI p → ∃ g e, pE (chT (gI h 12) s) p = .inr (g, e)
theorem BKo_cg {h h' : HS} (e1 : gI h' 0 31 = gI h 0 31) (e2 : gI h' 0 32 = gI h 0 32) (e3 : gI h' 13 = gI h 13) (e4 : gI h' 12 = gI h 12) (B : BKo h) : BKo h' := by
  unfold BKo at *
  rw [e1, e2, e3, e4]
  exact B
theorem RR_BKo (H : RR hc hm) : BKo hm := by
  obtain ⟨-, -, -, q', s', hq', hs', e1, e2, -, kl⟩ := H.1.2.2.2.2.1
  intro q s hq hs eq es i hi p hp ep
  rw [e1, nI_eq (by omega) (by omega)] at eq
  rw [e2, nI_eq (by omega) (by omega)] at es
  subst eq
  subst es
  obtain ⟨-, -, -, p', hp', ep', g, e, eE⟩ := kl i hi
  rw [ep', nI_eq (by omega) (by omega)] at ep
  subst ep
  exact ⟨g, e, eE⟩
def ltV (H M T D Y x : Int32) : Int32 := if x = 104 then H else if x = 109 then M else if x = 108 then T else if x = 100 then Y else D
theorem ltV_h {H M T D Y : Int32} : ltV H M T D Y 104 = H := if_pos rfl
theorem ltV_m {H M T D Y : Int32} : ltV H M T D Y 109 = M := by unfold ltV; rw [if_neg (by decide), if_pos rfl]
theorem ltV_l {H M T D Y : Int32} : ltV H M T D Y 108 = T := by unfold ltV; rw [if_neg (by decide), if_neg (by decide), if_pos rfl]
theorem ltV_d {H M T D Y : Int32} : ltV H M T D Y 100 = Y := by unfold ltV; rw [if_neg (by decide), if_neg (by decide), if_neg (by decide), if_pos rfl]
theorem ltV_w {H M T D Y : Int32} : ltV H M T D Y 119 = D := by unfold ltV; rw [if_neg (by decide), if_neg (by decide), if_neg (by decide), if_neg (by decide)]
def eV (M : HS) : PEnv := (fun j => if j < nLd M then gI M 5 j else 0, ltV (Hm M 0) (Mm M) (Tm M) (Dm M 0) (gI M 0 16))
theorem eV_h {M : HS} : (eV M).2 104 = Hm M 0 := ltV_h (H := Hm M 0) (M := Mm M) (T := Tm M) (D := Dm M 0) (Y := gI M 0 16)
theorem eV_m {M : HS} : (eV M).2 109 = Mm M := ltV_m (H := Hm M 0) (M := Mm M) (T := Tm M) (D := Dm M 0) (Y := gI M 0 16)
theorem eV_l {M : HS} : (eV M).2 108 = Tm M := ltV_l (H := Hm M 0) (M := Mm M) (T := Tm M) (D := Dm M 0) (Y := gI M 0 16)
theorem eV_d {M : HS} : (eV M).2 100 = gI M 0 16 := ltV_d (H := Hm M 0) (M := Mm M) (T := Tm M) (D := Dm M 0) (Y := gI M 0 16)
theorem eV_w {M : HS} : (eV M).2 119 = Dm M 0 := ltV_w (H := Hm M 0) (M := Mm M) (T := Tm M) (D := Dm M 0) (Y := gI M 0 16)
theorem eV_1 {M : HS} {j : Nat} : (eV M).1 j = if j < nLd M then gI M 5 j else 0 := rfl
theorem isL_n {h : HS} {N j : Nat} (hN : N ≤ 15) (e : gI h 0 0 = nI N) (hj : j ≤ 15) : fX12_isLoad (nI j) h = some (if j < N then 1 else 0, h) := by
  unfold fX12_isLoad
  rw [f_in, bd_s, e]
  by_cases c : j < N
  · rw [if_pos c, if_pos ⟨nI_pos' (by omega), by rw [show (1 : Int32) = nI 1 by decide, pk_sub (by omega)]; exact nI_le (by omega) (by omega)⟩]
    rfl
  · rw [if_neg c, if_neg (fun z => ?_)]
    · rfl
    · have q := i32_le.mp z.2
      by_cases c0 : N = 0
      · rw [c0, nI_0, nI_toInt (by omega), show ((0 : Int32) - 1).toInt = -1 by decide +kernel] at q
        omega
      · rw [show (1 : Int32) = nI 1 by decide, pk_sub (by omega), nI_toInt (by omega), nI_toInt (by omega)] at q
        omega
/-- states of the model that differ only in where it reads -/
def exM (h h' : HS) : Prop := ∀ b j, ¬ (b = 0 ∧ 26 ≤ j ∧ j ≤ 30) → gI h' b j = gI h b j
/-- what the model stands for: its row, what is put by and where it reads are no matter -/
def exV (h M : HS) : Prop := ∀ b j, ¬ b = 10 → ¬ b = 11 → ¬ (b = 0 ∧ (j = 21 ∨ j = 22 ∨ j = 24 ∨ (26 ≤ j ∧ j ≤ 30) ∨ j = 37 ∨ j = 38)) → gI M b j = gI h b j
theorem exV_M {h h' M : HS} (s : exM h h') (x : exV h M) : exV h' M := fun b j z1 z2 z3 => by rw [x b j z1 z2 z3, s b j (by omega)]
theorem EM_of {h' M : HS} (s : ∀ a, exV (pI h' 0 29 (nI a)) M) (H : RR hc M) : EM h' (eV M) := by
  intro a ha
  have n15 := RR_15 H
  have s := s a
  generalize pI h' 0 29 (nI a) = st at *
  obtain ⟨x1, xN, xY, xL, xD, x5⟩ := sm_M (h := M) (h' := st) (s _ _ (by decide) (by decide) (by decide)).symm (s _ _ (by decide) (by decide) (by decide)).symm (s _ _ (by decide) (by decide) (by decide)).symm (s _ _ (by decide) (by decide) (by decide)).symm (s _ _ (by decide) (by decide) (by decide)).symm (s _ _ (by decide) (by decide) (by decide)).symm (s _ _ (by decide) (by decide) (by decide)).symm (fun j => (s _ _ (by decide) (by decide) (by omega)).symm) (fun j => (s _ _ (by decide) (by decide) (by omega)).symm) (fun j => (s _ _ (by decide) (by decide) (by omega)).symm) (fun j => (s _ _ (by decide) (by decide) (by omega)).symm)
  obtain ⟨xW, xM, xT⟩ := x5 (fun j => (s _ _ (by decide) (by decide) (by omega)).symm)
  have VNs := xN (RR_VN H)
  have VYs := xY (RR_VY H)
  have rH : Hm st 0 = Hm M 0 := by unfold Hm; rw [xW, xL]
  refine ⟨?_, ?_, ?_, ?_, ?_, fun j hj => ?_⟩
  · rw [e_heavyM VNs VYs, rH, eV_h]
  · rw [e_momM0 VNs, xM, eV_m]
  · rw [e_momM1 VNs (by decide), xT, eV_l]
  · rw [← s 0 16 (by decide) (by decide) (by decide), eV_d]
  · rw [e_densM VYs, xD, eV_w]
  · have e0 : gI st 0 0 = nI (nLd M) := by rw [← s 0 0 (by decide) (by decide) (by decide)]; exact RR_eM H
    rw [isL_n n15 e0 hj, bd_s, if10s, eV_1]
    by_cases c : j < nLd M
    · rw [if_pos c, inb_n (show j < 15 by omega) (by omega), ck_t, nI_clamp (by omega), ← s 5 j (by decide) (by decide) (by omega), if_pos c]
    · rw [if_neg c, if_neg c]
def exC (h h' : HS) : Prop := ∀ b j, ¬ b = 14 → ¬ (b = 5 ∧ 11 ≤ j) → gI h' b j = gI h b j
theorem RR_exC {hc' : HS} (s : exC hc hc') (H : RR hc hm) : RR hc' hm := RR_cg (fun b j q => by
  refine s b j ?_ ?_
  · rintro rfl; cases q
  · rintro ⟨rfl, y⟩
    simp only [kcA, Bool.or_eq_true, beq_iff_eq] at q
    omega) cg_rf H
theorem exC_5 {h : HS} {j : Nat} {v : Int32} (hj : 11 ≤ j) {h' : HS} (s : exC h h') : exC h (pI h' 5 j v) := fun b k y1 y2 => by
  rw [gI_pI, if_neg (fun z => y2 ⟨z.1, by omega⟩)]
  exact s b k y1 y2
theorem EC_of {M : HS} {hc' : HS} (s : exC hc hc') (H : RR hc M) (e1 : gI hc' 5 11 = Hm M 0) (e2 : gI hc' 5 12 = Mm M) (e3 : gI hc' 5 13 = Tm M) (e4 : gI hc' 5 14 = Dm M 0) : EC hc' (eV M) := by
  have n15 := RR_15 H
  have e28 : gI hc' 2 8 = nI (nLd M) := by rw [s 2 8 (by decide) (by decide)]; exact RR_eC H
  refine ⟨⟨_, n15, e28⟩, fun a ha => ⟨fun p hp => ?_, fun j hj => ?_⟩⟩
  · have g : ∀ b j, ¬ b = 14 → gI (pI hc' 14 2 (nI a)) b j = gI hc' b j := fun b j z => by rw [gI_pI, if_neg (fun y => z y.1)]
    unfold fX1_letter
    rcases hp with rfl | rfl | rfl | rfl | rfl
    · rw [if_neg (by decide), if_neg (by decide), if_neg (by decide), if_neg (by decide), if_pos rfl, g _ _ (by decide), e1, eV_h]
    · rw [if_neg (by decide), if_neg (by decide), if_neg (by decide), if_neg (by decide), if_neg (by decide), if_neg (by decide), if_neg (by decide), if_neg (by decide), if_neg (by decide), if_pos rfl, g _ _ (by decide), e2, eV_m]
    · rw [if_neg (by decide), if_neg (by decide), if_neg (by decide), if_neg (by decide), if_neg (by decide), if_neg (by decide), if_neg (by decide), if_neg (by decide), if_pos rfl, g _ _ (by decide), e3, eV_l]
    · rw [if_pos rfl, g _ _ (by decide), s 1 7 (by decide) (by decide), H.1.2.1.2.2.2.2.2.2.2.2.2.2.1, eV_d]
    · rw [if_neg (by decide), if_neg (by decide), if_neg (by decide), if_neg (by decide), if_neg (by decide), if_neg (by decide), if_neg (by decide), if_neg (by decide), if_neg (by decide), if_neg (by decide), g _ _ (by decide), e4, eV_w]
  · unfold fX4_there
    have e28' : gI (pI hc' 14 2 (nI a)) 2 8 = nI (nLd M) := by rw [gI_pI, if_neg (by decide)]; exact e28
    rw [eV_1, if_neg (nI_pos (by omega)), e28']
    by_cases c : j < nLd M
    · rw [if_neg (nI_ge c (by omega)), bd_s, if_neg (by decide), inb_n (show j < 15 by omega) (by omega), ck_t, nI_clamp (by omega), gI_pI, if_neg (by omega), s 30 j (by decide) (by omega), H.1.1.2.2.2.2.2 j, if_pos c]
    · rw [if_pos (nI_le (by omega) (by omega)), bd_s, if_pos rfl, if_neg c]
theorem line_both {h M : HS} {q i : Nat} (x : exV h M) (H : RR hc M) (BK : BKo M) (eq : gI M 0 31 = nI q) (hq : q ≤ 15) (hi : i < q) : ∃ r hc' h', fX1_valueOf (nI i) hc = some (r, hc') ∧ fX12_lineOf (nI i) h = some (r, h') ∧ exC hc hc' ∧ exM h h' := by
  obtain ⟨k1, k2, kb, q', s, hq', hs, e1, e2, kt, kl⟩ := H.1.2.2.2.2.1
  have qq : q' = q := by rw [e1, nI_eq (by omega) (by omega)] at eq; exact eq
  subst qq
  obtain ⟨l1, l2, -, p, hp, ep, -⟩ := kl i hi
  obtain ⟨g, e, eE⟩ := BK q' s hq hs eq e2 i hi p hp ep
  have Z := chT_Z (m := gI M 12) hs
  -- the model
  have k60 : (60 : Int32) = nI 60 := by decide
  have TMb := bgM_T (h := h) (q := 12) (n := 60) (t := s) (u := 60) (s := s) (by decide) (by decide) (by omega) hs (by omega) (by omega) (by omega)
  have f12 : gI h 12 = gI M 12 := funext fun k => (x 12 k (by decide) (by decide) (by omega)).symm
  rw [f12] at TMb
  have mE := m_E TMb Z (EM_of (M := M) (h' := bgM h 12 (nI s) (nI 60)) (fun a => exV_M (h := h) (fun b j z => by rw [gI_pI, if_neg (by omega), bgM_g b j z]) x) H) (show p ≤ 60 by omega)
  rw [eE] at mE
  -- the class
  obtain ⟨c4, ec4⟩ : ∃ x, x = pI (pI (pI (pI hc 5 11 (Hm M 0)) 5 12 (Mm M)) 5 13 (Tm M)) 5 14 (Dm M 0) := ⟨_, rfl⟩
  have s1 : exC hc (pI hc 5 11 (Hm M 0)) := exC_5 (by omega) (fun _ _ _ _ => rfl)
  have s2 := exC_5 (v := Mm M) (j := 12) (by omega) s1
  have s3 := exC_5 (v := Tm M) (j := 13) (by omega) s2
  have s4 := exC_5 (v := Dm M 0) (j := 14) (by omega) s3
  rw [← ec4] at s4
  have H1 := RR_exC s1 H
  have H2 := RR_exC s2 H
  have H3 := RR_exC s3 H
  have g4 : gI c4 5 11 = Hm M 0 ∧ gI c4 5 12 = Mm M ∧ gI c4 5 13 = Tm M ∧ gI c4 5 14 = Dm M 0 := by
    rw [ec4]
    refine ⟨?_, ?_, ?_, ?_⟩
    · rw [gI_pI, if_neg (by decide), gI_pI, if_neg (by decide), gI_pI, if_neg (by decide), gI_pI, if_pos ⟨rfl, rfl⟩]
    · rw [gI_pI, if_neg (by decide), gI_pI, if_neg (by decide), gI_pI, if_pos ⟨rfl, rfl⟩]
    · rw [gI_pI, if_neg (by decide), gI_pI, if_pos ⟨rfl, rfl⟩]
    · rw [gI_pI, if_pos ⟨rfl, rfl⟩]
  have TCb := bgC_T (A := 14) (h := c4) (q := 36) (n := 60) (s := s) (p := nI p) (m := gI M 12) (by decide) (by decide) hs (by omega) (fun k hk => by rw [s4 36 k (by decide) (by omega), kt k hk]) kb
  have exb : exC hc (bgC 14 c4 36 (nI p) (nI s)) := fun b j y1 y2 => by rw [bgC_g b j (fun z => y1 z.1)]; exact s4 b j y1 y2
  have gb5 : ∀ j, gI (bgC 14 c4 36 (nI p) (nI s)) 5 j = gI c4 5 j := fun j => bgC_g 5 j (by omega)
  have cE := c_E TCb Z (EC_of exb H (by rw [gb5]; exact g4.1) (by rw [gb5]; exact g4.2.1) (by rw [gb5]; exact g4.2.2.1) (by rw [gb5]; exact g4.2.2.2)) (show p ≤ 60 by omega)
  rw [eE] at cE
  have sp : pI (bgC 14 c4 36 (nI p) (nI s)) 14 2 (nI p) = bgC 14 c4 36 (nI p) (nI s) := by
    have : gI (bgC 14 c4 36 (nI p) (nI s)) 14 2 = nI p := by unfold bgC; rw [gI_pI, if_neg (by decide), gI_pI, if_neg (by decide), gI_pI, if_pos ⟨rfl, rfl⟩]
    have t : ∀ (x : HS) (v : Int32), gI x 14 2 = v → pI x 14 2 v = x := fun x v e => by rw [← e, pI_self]
    exact t _ _ this
  rw [sp] at cE
  rcases cE with ⟨f, z, -⟩ | ⟨g1, e1', z1, z2, z3, z4⟩
  · cases z
  rcases mE with ⟨f, z, -⟩ | ⟨g2, e2', y1, y2, y3, y4⟩
  · cases z
  cases z1
  cases y1
  refine ⟨g (eV M), pI (bgC 14 c4 36 (nI p) (nI s)) 14 2 (nI e), pI (bgM h 12 (nI s) (nI 60)) 0 29 (nI e), ?_, ?_, ?_, ?_⟩
  · unfold fX1_valueOf
    have im : imax 0 (nI p) = nI p := Int32.toInt_inj.mp (by rw [imax_toInt, i32_z, nI_toInt (by omega)]; omega)
    have imn : imin (nI s) (Int32.ofNat 60) = nI s := Int32.toInt_inj.mp (by rw [imin_toInt, show Int32.ofNat 60 = nI 60 from rfl, nI_toInt (by omega), nI_toInt (by omega)]; omega)
    rw [e_heavyC (RR_VNc H) (RR_VYc H), bd_s, nm_e1, RR_Hc H, e_momC (RR_VNc H1), bd_s, nm_e1, RR_Mc H1, e_listC (RR_VNc H2), bd_s, nm_e1, RR_Tc H2, e_densC (RR_VYc H3), bd_s, nm_e1, RR_Dc H3, ← ec4, inb_n (show i < 15 by omega) (by omega), ck_t, nI_clamp (by omega), s4 38 i (by decide) (by omega), l2, ep, s4 5 4 (by decide) (by decide), k2, e2, e_beginC (n := 60) c4 (nI p) (nI s) (by decide), im, imn, bv_s, z4, bd_s]
  · unfold fX12_lineOf
    rw [← x 0 32 (by decide) (by decide) (by decide), e2, k60, e_beginM, bv_s, inb_n (show i < 16 by omega) (by omega), ck_t, nI_clamp (by omega), nm_e1, bgM_g 13 i (by omega), ← x 13 i (by decide) (by decide) (by omega), ep, y4, bd_s]
  · intro b j w1 w2
    rw [gI_pI, if_neg (fun z => w1 z.1)]
    exact exb b j w1 w2
  · intro b j w
    rw [gI_pI, if_neg (by omega), bgM_g b j w]
theorem op_line (H : RR hc hm) (p : Int32) : OKT (¬ (0 ≤ p ∧ p ≤ gI hc 5 5 - 1)) (fX11_line p hc) (fX12_line p hm) hc := by
  have BK := RR_BKo H
  have H2 := RR_thrown 0 H
  have k1 := H.1.2.2.2.2.1.1
  have k1' : gI (pI hm 0 22 0) 0 31 = gI hc 5 5 := by rw [gI_pI, if_neg (by decide), k1]
  simp only [fX11_line, fX12_line, f_between, f_in, bd_s, nm_e1, if10s, k1']
  refine ⟨fun c => ?_, fun c => ?_⟩
  · have c := Decidable.not_not.mp c
    rw [if_pos c, if_pos c]
    obtain ⟨-, -, -, q, s, hq, hs, e1, e2, -, -⟩ := H2.1.2.2.2.2.1
    obtain ⟨i, i1, rfl⟩ := nI_of (Int32.not_lt.mpr c.1)
    have hi : i < q := by
      have := i32_le.mp c.2
      rw [← k1', e1, nI_toInt (by omega)] at this
      by_cases c0 : q = 0
      · rw [c0, nI_0, show ((0 : Int32) - 1).toInt = -1 by decide +kernel] at this
        omega
      · rw [show (1 : Int32) = nI 1 by decide, pk_sub (by omega), nI_toInt (by omega)] at this
        omega
    have BK2 : BKo (pI hm 0 22 0) := BKo_cg (by rw [gI_pI, if_neg (by decide)]) (by rw [gI_pI, if_neg (by decide)]) (gI_pIr (by decide)) (gI_pIr (by decide)) BK
    obtain ⟨r, hc', h', a1, a2, a3, a4⟩ := line_both (h := pI hm 0 22 0) (M := pI hm 0 22 0) (fun _ _ _ _ _ => rfl) H2 BK2 e1 hq hi
    rw [a1, a2, bd_s, bd_s]
    refine ⟨r, hc', h', rfl, rfl, by rw [a4 0 22 (by decide)]; exact th0, ?_⟩
    exact RR_cg cg_rf (fun b j q => a4 b j (by
      rintro ⟨rfl, y1, y2⟩
      simp only [kmA, Bool.or_eq_true, beq_iff_eq] at q
      omega)) (RR_exC a3 H2)
  · rw [if_neg c]
    obtain ⟨hm', l1, l2, l3⟩ := lostM H
    rw [l1, bd_s]
    exact ⟨_, _, rfl, l2, l3⟩
end LIN
