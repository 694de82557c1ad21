/-! the simple operations -/
section EZ
variable {hc hm : HS}
theorem RR_nC (H : RR hc hm) : nC hc = nLd hm := by
  show (gI hc 2 8).toNatClampNeg = (gI hm 0 0).toNatClampNeg
  rw [H.1.1.1]
theorem RR_VN (H : RR hc hm) : VN hm := H.2.1.1.1
theorem RR_VY (H : RR hc hm) : VY hm := H.2.1.2.1.2.2.2.2.2.1
theorem RR_VNc (H : RR hc hm) : VNc hc := by
  obtain ⟨h1, h2⟩ := VN_n (RR_VN H)
  refine ⟨by rw [RR_nC H]; exact h1, ?_⟩
  rw [RR_nC H, ← h2]
  exact H.1.1.1
theorem RR_nY (H : RR hc hm) : nYc hc = nLy hm := by
  show (gI hc 3 2).toNatClampNeg = (gI hm 0 11).toNatClampNeg
  rw [H.1.2.1.2.2.2.2.2.1]
theorem RR_VYc (H : RR hc hm) : VYc hc := by
  obtain ⟨h1, h2, h3⟩ := VY_n (RR_VY H)
  refine ⟨by rw [RR_nY H]; exact h1, ?_, ?_⟩
  · rw [RR_nY H, ← h2]
    exact H.1.2.1.2.2.2.2.2.1
  · intro i j h4 h5
    rw [H.1.2.1.2.2.2.2.2.2.1 i, H.1.2.1.2.2.2.2.2.2.1 j]
    exact h3 i j h4 (by rw [← RR_nY H]; exact h5)
theorem RR_Wc (H : RR hc hm) : Wc hc = Wm hm := by
  unfold Wc Wm
  rw [RR_nC H, H.1.2.1.1, show gI hc 30 = gI hm 5 from funext H.1.1.2.2.2.2.2]
theorem RR_Mc (H : RR hc hm) : Mc hc = Mm hm := by
  unfold Mc Mm
  rw [RR_nC H, H.1.2.1.2.1, show gI hc 30 = gI hm 5 from funext H.1.1.2.2.2.2.2, show gI hc 27 = gI hm 2 from funext H.1.1.2.2.1]
theorem RR_Tc (H : RR hc hm) : Tc hc = Tm hm := by
  unfold Tc Tm
  rw [RR_nC H, H.1.2.1.2.2.1, show gI hc 30 = gI hm 5 from funext H.1.1.2.2.2.2.2, show gI hc 28 = gI hm 3 from funext H.1.1.2.2.2.1]
theorem RR_Dc (H : RR hc hm) (d : Int32) : Dc hc d = Dm hm d := by
  unfold Dc Dm
  rw [RR_nY H, show gI hc 33 = gI hm 6 from funext H.1.2.1.2.2.2.2.2.2.1, show gI hc 34 = gI hm 7 from funext H.1.2.1.2.2.2.2.2.2.2.1]
theorem RR_Lc (H : RR hc hm) (d : Int32) : Lc hc d = Lm hm d := by
  unfold Lc Lm
  rw [RR_nY H, show gI hc 33 = gI hm 6 from funext H.1.2.1.2.2.2.2.2.2.1, show gI hc 34 = gI hm 7 from funext H.1.2.1.2.2.2.2.2.2.2.1, H.1.2.1.2.2.2.1, H.1.2.1.2.2.2.2.1]
theorem RR_Hc (H : RR hc hm) (d : Int32) : Hc hc d = Hm hm d := by
  unfold Hc Hm
  rw [RR_Wc H, RR_Lc H]
theorem RR_sl (H : RR hc hm) (k : Nat) : gI hc 17 k = gI hm 8 k := H.1.2.1.2.2.2.2.2.2.2.2.1 k
theorem RR_Bc (H : RR hc hm) (d : Int32) : Bc hc d ↔ Bm hm d := by
  unfold Bc Bm
  rw [RR_Hc H, RR_Mc H, RR_Tc H, RR_sl H, RR_sl H, RR_sl H]
theorem OK2_c {r : Int32} {hc' hm' : HS} (H : RR hc' hm') : OK2 (some (r, hc')) (some (r, hm')) := ⟨r, hc', hm', rfl, rfl, H⟩
theorem OK2_if {c : Prop} [Decidable c] {a b a' b' : Option (Int32 × HS)} (h1 : c → OK2 a a') (h2 : ¬ c → OK2 b b') : OK2 (if c then a else b) (if c then a' else b') := by
  by_cases h : c
  · rw [if_pos h, if_pos h]; exact h1 h
  · rw [if_neg h, if_neg h]; exact h2 h
theorem rngI {x lo hi : Int32} (a b : Int) (h : lo ≤ x ∧ x ≤ hi) (ea : lo.toInt = a := by decide +kernel) (eb : hi.toInt = b := by decide +kernel) : a ≤ x.toInt ∧ x.toInt ≤ b := by
  obtain ⟨h1, h2⟩ := h
  rw [Int32.le_iff_toInt_le] at h1 h2
  omega
theorem op_count (H : RR hc hm) (p : Int32) : OK2 (fX11_count p hc) (fX12_count p hm) := by
  unfold fX11_count fX12_count
  rw [nm_e1]
  have H2 := RR_thrown 0 H
  have e : ∀ k, ¬ k = 22 → gI (pI hm 0 22 0) 0 k = gI hm 0 k := fun k hk => by rw [gI_pI, if_neg (fun q => hk q.2)]
  simp only [e 0 (by decide), e 11 (by decide), e 31 (by decide), e 39 (by decide), e 50 (by decide), e 53 (by decide), e 15 (by decide), e 16 (by decide), e 21 (by decide), e 19 (by decide)]
  obtain ⟨⟨h1, h2, h3, h4, h5, h6, h7, h8, h9, h10⟩, -, -⟩ := H
  rw [h1.1, h2.2.2.2.2.2.1, h5.1, h6.1, h7.1, h7.2.1, h2.2.2.2.2.2.2.2.2.2.1, h2.2.2.2.2.2.2.2.2.2.2.1, h4.1, h3.1]
  repeat (refine OK2_if (fun _ => OK2_c H2) (fun _ => ?_))
  exact OK2_c H2
theorem op_seed (H : RR hc hm) (p : Int32) : OK2 (fX11_seed p hc) (fX12_seed p hm) := by
  unfold fX11_seed fX12_seed
  simp only [nm_e1]
  have e : gI (pI hm 0 22 0) 0 17 = gI hm 0 17 := by rw [gI_pI, if_neg (by decide)]
  rw [e, H.1.2.1.2.2.2.2.2.2.2.2.2.2.2]
  refine OK2_c (RR_upB (cg_pI rfl cg_rf) (cg_pI rfl (cg_pI rfl cg_rf)) ?_ ?_ H)
  · have hb := H.1.2.1
    simp only [RB] at hb
    simp [RB, gI_pI, gI_pIr, hb]
  · simpa [IB, VY, nLy, gI_pI, gI_pIr] using H.2.1.2.1
theorem op_base (H : RR hc hm) (p1 p2 p3 : Int32) : OK2 (fX11_base p1 p2 p3 hc) (fX12_base p1 p2 p3 hm) := by
  have H2 := RR_thrown 0 H
  simp only [fX11_base, fX11_base_36, fX11_base_37, fX12_base, f_between, f_in, bd_s, nm_e1, if10s, nz0, nz1, if_true]
  refine OK2_if (fun c1 => OK2_if (fun c2 => OK2_if (fun c3 => ?_) (fun _ => OK2_c H2)) (fun _ => OK2_c H2)) (fun _ => OK2_c H2)
  rw [if_neg (by decide)]
  refine OK2_c (RR_upB (cg_pI rfl (cg_pI rfl (cg_pI rfl cg_rf))) (cg_pI rfl (cg_pI rfl (cg_pI rfl (cg_pI rfl cg_rf)))) ?_ ?_ H)
  · have hb := H.1.2.1
    simp only [RB] at hb
    simp [RB, gI_pI, gI_pIr, hb]
  · have hi := H.2.1.2.1
    simp only [IB, VY, nLy] at hi
    have r1 := rngI 0 99999 c1
    have r2 := rngI (-999999) 999999 c2
    have r3 := rngI (-99999) 99999 c3
    simp [IB, VY, nLy, gI_pI, gI_pIr, hi, r1, r2, r3]
    exact hi.2.2.2.2.2.2.1
theorem op_hull (H : RR hc hm) (p1 p2 : Int32) : OK2 (fX11_hull p1 p2 hc) (fX12_hull p1 p2 hm) := by
  have H2 := RR_thrown 0 H
  simp only [fX11_hull, fX11_hull_24, fX11_hull_25, fX12_hull, f_between, f_in, bd_s, nm_e1, if10s, nz0, nz1, if_true]
  refine OK2_if (fun c1 => OK2_if (fun c2 => ?_) (fun _ => OK2_c H2)) (fun _ => OK2_c H2)
  rw [if_neg (by decide)]
  refine OK2_c (RR_upB (cg_pI rfl (cg_pI rfl cg_rf)) (cg_pI rfl (cg_pI rfl (cg_pI rfl cg_rf))) ?_ ?_ H)
  · have hb := H.1.2.1
    simp only [RB] at hb
    simp [RB, gI_pI, gI_pIr, hb]
  · have hi := H.2.1.2.1
    simp only [IB, VY, nLy] at hi
    have r1 := rngI 1 99999 c1
    have r2 := rngI 0 99 c2
    simp [IB, VY, nLy, gI_pI, gI_pIr, hi, r1, r2]
    exact hi.2.2.2.2.2.2.1
theorem op_mix (H : RR hc hm) : OK2 (fX11_mix hc) (fX12_mix hm) := by
  simp only [fX11_mix, fX12_mix, nm_e1]
  have e : gI (pI hm 0 22 0) 0 11 = gI hm 0 11 := by rw [gI_pI, if_neg (by decide)]
  rw [e, H.1.2.1.2.2.2.2.2.1]
  refine OK2_c (RR_upB (cg_pI rfl cg_rf) (cg_pI rfl (cg_pI rfl cg_rf)) ?_ ?_ H)
  · have hb := H.1.2.1
    simp only [RB] at hb
    simp [RB, gI_pI, gI_pIr, hb]
  · have hi := H.2.1.2.1
    simp only [IB] at hi
    have e0 : nLy (pI (pI hm 0 22 0) 0 11 0) = 0 := by
      show (gI (pI (pI hm 0 22 0) 0 11 0) 0 11).toNatClampNeg = 0
      rw [gI_pI, if_pos ⟨rfl, rfl⟩]
      rfl
    have e1 : VY (pI (pI hm 0 22 0) 0 11 0) := ⟨0, by omega, by rw [gI_pI, if_pos ⟨rfl, rfl⟩, nI_0], fun i j _ h => by omega⟩
    simp only [IB, e0]
    refine ⟨?_, ?_, ?_, ?_, ?_, e1, fun i h => by omega, ?_, ?_, ?_, ?_⟩ <;> simp [gI_pI, gI_pIr, hi]
theorem op_air (H : RR hc hm) (p1 : Int32) : OK2 (fX11_air p1 hc) (fX12_air p1 hm) := by
  have H2 := RR_thrown 0 H
  simp only [fX11_air, fX12_air, f_between, f_in, bd_s, nm_e1, if10s]
  have e : gI (pI hm 0 22 0) 0 15 = gI hm 0 15 := by rw [gI_pI, if_neg (by decide)]
  rw [e, H.1.2.1.2.2.2.2.2.2.2.2.2.1]
  refine OK2_if (fun c1 => ?_) (fun _ => OK2_c H2)
  refine OK2_c (RR_upB (cg_pI rfl cg_rf) (cg_pI rfl (cg_pI rfl cg_rf)) ?_ ?_ H)
  · have hb := H.1.2.1
    simp only [RB] at hb
    simp [RB, gI_pI, gI_pIr, hb]
  · have hi := H.2.1.2.1
    simp only [IB, VY, nLy] at hi
    have r1 := rngI 0 99999 c1
    simp [IB, VY, nLy, gI_pI, gI_pIr, hi, r1]
    exact hi.2.2.2.2.2.2.1
theorem op_end (H : RR hc hm) (p1 : Int32) : OK2 (fX11_end p1 hc) (fX12_end p1 hm) := by
  have H2 := RR_thrown 0 H
  simp only [fX11_end, fX12_end, f_between, f_in, bd_s, nm_e1, if10s]
  have e : gI (pI hm 0 22 0) 0 19 = gI hm 0 19 := by rw [gI_pI, if_neg (by decide)]
  rw [e, H.1.2.2.1.1]
  refine OK2_if (fun c1 => ?_) (fun _ => OK2_c H2)
  obtain ⟨t1, t2, ⟨t, ht, et⟩, t4⟩ := H.1.2.2.1
  refine OK2_c (RR_upT (cg_pI rfl cg_rf) (cg_pI rfl (cg_pI rfl cg_rf)) ?_ H)
  rw [et, Int32.le_iff_toInt_le, Int32.le_iff_toInt_le, nI_toInt (by omega)] at c1
  have z : (0 : Int32).toInt = 0 := rfl
  refine ⟨by simp [gI_pI], fun k => by simp [gI_pI, t2], ⟨p1.toInt.toNat, by omega, ?_⟩, fun k => by simp [gI_pI, t4]⟩
  rw [gI_pI, if_pos ⟨rfl, rfl⟩]
  apply Int32.toInt_inj.mp
  rw [nI_toInt (by omega)]
  omega
theorem op_slack (H : RR hc hm) (p1 p2 : Int32) : OK2 (fX11_slack p1 p2 hc) (fX12_slack p1 p2 hm) := by
  have H2 := RR_thrown 0 H
  simp only [fX11_slack, fX11_slack_23, fX12_slack, fX12_slack_28, f_between, f_in, bd_s, nm_e1, if10s]
  refine OK2_if (fun c1 => ?_) (fun _ => OK2_c H2)
  have hp : ∃ i, i < 3 ∧ p1 = nI i := by
    have r := rngI 0 2 c1
    refine ⟨p1.toInt.toNat, by omega, ?_⟩
    apply Int32.toInt_inj.mp
    rw [nI_toInt (by omega)]
    omega
  obtain ⟨i, hi3, rfl⟩ := hp
  have key : ∀ (top : Int32), (∀ v : Int32, 0 ≤ v ∧ v ≤ top → (i = 0 → 0 ≤ v.toInt ∧ v.toInt ≤ 50) ∧ (0 ≤ v.toInt ∧ v.toInt ≤ 9999)) → OK2 (if 0 ≤ p2 ∧ p2 ≤ top then ck (inb (nI i) 3) (ck (inb (nI i) 3) (some (gI hc 17 (nI i).toNatClampNeg, pI hc 17 (nI i).toNatClampNeg p2))) else some (-1, hc)) (if 0 ≤ p2 ∧ p2 ≤ top then ck (inb (nI i) 3) (ck (inb (nI i) 3) (some (gI (pI hm 0 22 0) 8 (nI i).toNatClampNeg, pI (pI hm 0 22 0) 8 (nI i).toNatClampNeg p2))) else some (-1, pI hm 0 22 0)) := by
    intro top htop
    refine OK2_if (fun c2 => ?_) (fun _ => OK2_c H2)
    obtain ⟨r1, r2⟩ := htop p2 c2
    simp only [inb_n hi3 (by omega), ck_t, nI_clamp (show i < 2 ^ 31 by omega)]
    rw [RR_sl H, show gI (pI hm 0 22 0) 8 i = gI hm 8 i by rw [gI_pI, if_neg (by omega)]]
    refine OK2_c (RR_upB (cg_pI rfl cg_rf) (cg_pI rfl (cg_pI rfl cg_rf)) ?_ ?_ H)
    · have hb := H.1.2.1
      simp only [RB] at hb
      simp [RB, gI_pI, gI_pIr, hb]
    · have hi := H.2.1.2.1
      simp only [IB, VY, nLy] at hi
      have c : i = 0 ∨ i = 1 ∨ i = 2 := by omega
      rcases c with rfl | rfl | rfl
      · have r1 := r1 rfl
        simp [IB, VY, nLy, gI_pI, gI_pIr, hi, r1]
        exact hi.2.2.2.2.2.2.1
      · simp [IB, VY, nLy, gI_pI, gI_pIr, hi, r2]
        exact hi.2.2.2.2.2.2.1
      · simp [IB, VY, nLy, gI_pI, gI_pIr, hi, r2]
        exact hi.2.2.2.2.2.2.1
  refine OK2_if (fun c2 => key 50 (fun v hv => ?_)) (fun c2 => key 9999 (fun v hv => ?_))
  · have := rngI 0 50 hv
    omega
  · have := rngI 0 9999 hv
    refine ⟨fun h0 => ?_, this⟩
    subst h0
    exact absurd nI_0 c2
theorem op_fill (H : RR hc hm) (p1 p2 : Int32) : OK2 (fX11_fill p1 p2 hc) (fX12_fill p1 p2 hm) := by
  have H2 := RR_thrown 0 H
  obtain ⟨n15, en⟩ := VN_n (RR_VN H)
  have eC : gI hc 2 8 = nI (nLd hm) := H.1.1.1.trans en
  have eM : gI (pI hm 0 22 0) 0 0 = nI (nLd hm) := by rw [gI_pI, if_neg (by decide)]; exact en
  simp only [fX11_fill, fX12_fill, f_thereC (show nLd hm < 2 ^ 31 by omega) eC, nm_e1, f_isLoadM (show nLd hm < 2 ^ 31 by omega) eM, f_between, f_in, bd_s, if10s]
  refine OK2_if (fun c1 => ?_) (fun _ => OK2_c H2)
  obtain ⟨i, hi, rfl⟩ := c1
  simp only [inb_n (show i < 15 by omega) (by omega), ck_t, nI_clamp (show i < 2 ^ 31 by omega)]
  obtain ⟨l1, l2, l3, l4, l5, l6⟩ := H.1.1
  rw [l5 i, l6 i, show gI (pI hm 0 22 0) 4 i = gI hm 4 i by rw [gI_pI, if_neg (by omega)], show gI (pI hm 0 22 0) 5 i = gI hm 5 i by rw [gI_pI, if_neg (by omega)]]
  refine OK2_if (fun c2 => ?_) (fun _ => OK2_c H2)
  refine OK2_c (RR_upH (cg_pI rfl cg_rf) (cg_pI rfl (cg_pI rfl cg_rf)) ?_ ?_ H)
  · simp [RLo, gI_pI, gI_pIr, l1, l2, l3, l4, l5, l6]
  · obtain ⟨v1, v2⟩ := H.2.1.1
    have eN : nLd (pI (pI hm 0 22 0) 5 i p2) = nLd hm := rfl
    refine ⟨v1, fun k hk => ?_⟩
    rw [eN] at hk
    obtain ⟨a1, a2, a3, a4, a5, a6⟩ := v2 k hk
    by_cases hki : k = i
    · subst hki
      rw [Int32.le_iff_toInt_le, Int32.le_iff_toInt_le] at c2
      have z : (0 : Int32).toInt = 0 := rfl
      simp [gI_pI, a1, a2, a3, a6]
      omega
    · simp [gI_pI, hki, a1, a2, a3, a4, a5, a6]
end EZ
