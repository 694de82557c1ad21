section DVF
variable {hc hm : HS}
/-- a row of two -/
theorem tell2 (H : RR hc hm) (u v : Int32) : ∃ hc1 hc2 hc3 hm2 hm3, fX6_empty hc = some hc1 ∧ fX6_add u hc1 = some hc2 ∧ fX6_add v hc2 = some hc3 ∧ fX12_tell u (pI hm 0 21 0) = some hm2 ∧ fX12_tell v hm2 = some hm3 ∧ RR hc3 hm3 ∧ gI hm3 0 21 = nI 2 ∧ (∀ b j, ¬ b = 4 → ¬ b = 35 → gI hc1 b j = gI hc b j ∧ gI hc2 b j = gI hc b j ∧ gI hc3 b j = gI hc b j) ∧ (∀ b j, ¬ b = 10 → ¬ (b = 0 ∧ j = 21) → gI hm2 b j = gI hm b j ∧ gI hm3 b j = gI hm b j) := by
  obtain ⟨a1, a2, a3⟩ := row0 H
  obtain ⟨b1, b2, b3, b4⟩ := row1 a2 a3 (by omega) u
  obtain ⟨d1, d2, d3, d4⟩ := row1 b3 b4 (by omega) v
  refine ⟨_, _, _, _, _, a1, b1, d1, b2, d2, d3, d4, fun b j h1 h2 => ⟨?_, ?_, ?_⟩, fun b j h1 h2 => ⟨?_, ?_⟩⟩
  · simp only [gI_pI, h1, false_and, if_false]
  · simp only [gI_pI, h1, h2, false_and, if_false]
  · simp only [gI_pI, h1, h2, false_and, if_false]
  · simp only [gI_pI, h1, h2, false_and, if_false]
  · simp only [gI_pI, h1, h2, false_and, if_false]
/-- a row of one -/
theorem tell1 (H : RR hc hm) (u : Int32) : ∃ hc1 hc2 hm2, fX6_empty hc = some hc1 ∧ fX6_add u hc1 = some hc2 ∧ fX12_tell u (pI hm 0 21 0) = some hm2 ∧ RR hc2 hm2 ∧ gI hm2 0 21 = nI 1 ∧ (∀ b j, ¬ b = 4 → ¬ b = 35 → gI hc1 b j = gI hc b j ∧ gI hc2 b j = gI hc b j) ∧ (∀ b j, ¬ b = 10 → ¬ (b = 0 ∧ j = 21) → gI hm2 b j = gI hm b j) := by
  obtain ⟨a1, a2, a3⟩ := row0 H
  obtain ⟨b1, b2, b3, b4⟩ := row1 a2 a3 (by omega) u
  refine ⟨_, _, _, a1, b1, b2, b3, b4, fun b j h1 h2 => ⟨?_, ?_⟩, fun b j h1 h2 => ?_⟩
  · simp only [gI_pI, h1, false_and, if_false]
  · simp only [gI_pI, h1, h2, false_and, if_false]
  · simp only [gI_pI, h1, h2, false_and, if_false]
def DVR (hc hm : HS) : Prop := RR hc hm ∧ gI hc 7 3 = gI hm 0 48 ∧ gI hc 7 4 = gI hm 0 49 ∧ gI hc 7 1 = Wm hm ∧ gI hc 7 2 = Mm hm / 2000
theorem RR_73 {hc' : HS} (s : ∀ b j, ¬ b = 7 → gI hc' b j = gI hc b j) (H : RR hc hm) : RR hc' hm := RR_cg (fun b j q => s b j (by rintro rfl; cases q)) cg_rf H
theorem RR_48 {hm' : HS} (s : ∀ b j, ¬ (b = 0 ∧ (j = 48 ∨ j = 49)) → ¬ b = 11 → gI hm' b j = gI hm b j) (H : RR hc hm) : RR hc hm' := RR_cg cg_rf (fun b j q => s b j (by rintro ⟨rfl, rfl | rfl⟩ <;> cases q) (by rintro rfl; cases q)) H
theorem dv_step (D : DVR hc hm) : ∃ hc' hm', fX3_goSecond hc = some hc' ∧ fX12_second hm = some hm' ∧ DVR hc' hm' := by
  obtain ⟨H, d1, d2, d3, d4⟩ := D
  obtain ⟨hc', a1, a2, a3, a4⟩ := e_secC (RR_VYc H)
  obtain ⟨hm', b1, b2, b3, b4⟩ := e_secM (RR_VN H) (RR_VY H)
  obtain ⟨-, -, -, -, s5, s6⟩ := sm48 b2
  have eL : Lc hc = Lm hm := funext fun d => RR_Lc H d
  refine ⟨hc', hm', a1, b1, RR_48 (fun b j h1 _ => b2 b j h1) (RR_73 (fun b j h1 => a2 b j (fun z => h1 z.1)) H), ?_, ?_, ?_, ?_⟩
  · rw [a3, b3, d1, d2, d3, d4, eL]
  · rw [a4, b4, d1, d2, d3, d4, eL]
  · rw [a2 7 1 (by decide), d3, s5]
  · rw [a2 7 2 (by decide), d4, s6]
theorem e_begin (H : RR hc hm) (p pu : Int32) : ∃ hc', fX3_begin p pu hc = some hc' ∧ (∀ b j, ¬ b = 7 → gI hc' b j = gI hc b j) ∧ gI hc' 7 1 = Wm hm ∧ gI hc' 7 2 = pu ∧ gI hc' 7 3 = p * 10 ∧ gI hc' 7 4 = 0 := by
  unfold fX3_begin
  rw [e_weightC (RR_VNc H), bd_s]
  simp only [nm_e1]
  refine ⟨_, rfl, fun b j h1 => ?_, ?_, ?_, ?_, ?_⟩
  · simp only [gI_pI, h1, false_and, if_false]
  · rw [gI_pI, if_neg (by decide), gI_pI, if_neg (by decide), gI_pI, if_neg (by decide), gI_pI, if_pos ⟨rfl, rfl⟩, RR_Wc H]
  · rw [gI_pI, if_neg (by decide), gI_pI, if_neg (by decide), gI_pI, if_pos ⟨rfl, rfl⟩]
  · rw [gI_pI, if_neg (by decide), gI_pI, if_pos ⟨rfl, rfl⟩]
  · rw [gI_pI, if_pos ⟨rfl, rfl⟩]
/-- a dive begins on both sides -/
theorem dv_begin (H : RR hc hm) (p : Int32) : ∃ hc', fX3_begin p (Mm hm / 2000) hc = some hc' ∧ DVR hc' (pI (pI hm 0 48 (10 * p)) 0 49 0) := by
  obtain ⟨hc', a1, a2, a3, a4, a5, a6⟩ := e_begin H p (Mm hm / 2000)
  have sm : ∀ b j, ¬ (b = 0 ∧ (j = 48 ∨ j = 49)) → gI (pI (pI hm 0 48 (10 * p)) 0 49 0) b j = gI hm b j := fun b j hb => by
    rw [gI_pI, if_neg (fun z => hb ⟨z.1, Or.inr z.2⟩), gI_pI, if_neg (fun z => hb ⟨z.1, Or.inl z.2⟩)]
  obtain ⟨-, -, -, -, s5, s6⟩ := sm48 sm
  refine ⟨hc', a1, RR_48 (fun b j h1 _ => sm b j h1) (RR_73 a2 H), ?_, ?_, ?_, ?_⟩
  · rw [a5, gI_pI, if_neg (by decide), gI_pI, if_pos ⟨rfl, rfl⟩, Int32.mul_comm]
  · rw [a6, gI_pI, if_pos ⟨rfl, rfl⟩]
  · rw [a3, s5]
  · rw [a4, s6]
theorem upto {x : Int32} {M : Int32} (m : Nat) (hM : M.toInt = m := by decide +kernel) (h : 0 ≤ x ∧ x ≤ M) : ∃ n, n ≤ m ∧ x = nI n := by
  have r := rngI 0 m h rfl hM
  exact ⟨x.toInt.toNat, by omega, i32_eqI (by omega)⟩
theorem op_dive (H : RR hc hm) (p1 p2 p3 : Int32) : OK2 (fX11_dive p1 p2 p3 hc) (fX12_dive p1 p2 p3 hm) := by
  have H2 := RR_thrown 0 H
  simp only [fX11_dive, fX12_dive, nm_e1, f_isDepthC, f_isDepthM, f_between, f_in, bd_s, if10s]
  refine OK2_if (fun c1 => OK2_if (fun c2 => OK2_if (fun c3 => ?_) (fun _ => OK2_c H2)) (fun _ => OK2_c H2)) (fun _ => OK2_c H2)
  obtain ⟨N, hN, rfl⟩ := upto 600 (by decide +kernel) c3
  have key : ∀ (k i : Nat) (v4 : Int32) (hc hm : HS), DVR hc hm → i + k = N + 1 → ∀ n m, k < n → k < m → OK2 (fX11_dive_60 n p2 (nI N) v4 (nI i) hc) (bd (fX12_dives_34 m p2 (nI N) v4 (nI i) hm) (fun r12 h11 => bv (fX12_tell (gI (pI h11 0 21 0) 0 49) (pI h11 0 21 0)) (fun h14 => bv (fX12_tell r12 h14) (fun h15 => some (gI h15 0 48, h15))))) := by
    intro k
    induction k with
    | zero =>
      intro i v4 hc hm D hi n m hn hm1
      obtain ⟨n', rfl⟩ := fuel1 hn
      obtain ⟨m', rfl⟩ := fuel1 hm1
      obtain ⟨H, d1, d2, -, -⟩ := D
      obtain ⟨hc1, hc2, hc3, hm2, hm3, a1, a2, a3, a4, a5, a6, -, a7, a8⟩ := tell2 H (gI hm 0 49) v4
      rw [fX11_dive_60, fX12_dives_34, if_pos (nI_lt (by omega) (by omega)), if_pos (nI_lt (by omega) (by omega)), bd_s, a1, bv_s, (a7 7 4 (by decide) (by decide)).1, d2, a2, bv_s, a3, bv_s, (a7 7 3 (by decide) (by decide)).2.2, d1, gI_pI, if_neg (by decide), a4, bv_s, a5, bv_s, (a8 0 48 (by decide) (by decide)).2]
      exact OK2_c a6
    | succ k ih =>
      intro i v4 hc hm D hi n m hn hm1
      obtain ⟨n', rfl⟩ := fuel1 hn
      obtain ⟨m', rfl⟩ := fuel1 hm1
      obtain ⟨hc', hm', a1, a2, a3⟩ := dv_step D
      rw [fX11_dive_60, fX12_dives_34, if_neg (nI_nlt (by omega) (by omega)), if_neg (nI_nlt (by omega) (by omega)), a1, a2, bv_s, bv_s]
      unfold fX12_dives_66 fX12_dives_68
      simp only [nm_e1, nI_1, Int32.mul_comm p2 10, a3.2.1]
      have g1 := ih (i + 1) v4 hc' hm' a3 (by omega) n' m' (by omega) (by omega)
      have g2 := ih (i + 1) (nI i) hc' hm' a3 (by omega) n' m' (by omega) (by omega)
      by_cases z : v4 = -1
      · rw [if_pos z, if_pos z]
        by_cases y : gI hm' 0 48 < 10 * p2
        · rw [if_pos y, if_pos y]; exact g1
        · rw [if_neg y, if_neg y]; exact g2
      · rw [if_neg z, if_neg z]; exact g1
  obtain ⟨hc', b1, b2⟩ := dv_begin H2 p1
  have eM : Mm (pI hm 0 22 0) = Mm hm := rfl
  rw [e_momC (RR_VNc H), bd_s, RR_Mc H]
  unfold fX3_pushOf fX12_dives fX11_dive_55 fX12_dives_29
  rw [bd_s, ← eM, b1, bv_s]
  simp only [nm_e1]
  have e48 : gI (pI (pI (pI hm 0 22 0) 0 48 (10 * p1)) 0 49 0) 0 48 = 10 * p1 := by rw [gI_pI, if_neg (by decide), gI_pI, if_pos ⟨rfl, rfl⟩]
  have e1 : (1 : Int32) = nI 1 := by decide
  have cmp : (10 * p1 < 10 * p2) ↔ p1 < p2 := by
    obtain ⟨a, ha, rfl⟩ := depth_n c1
    obtain ⟨b, hb, rfl⟩ := depth_n c2
    rw [show (10 : Int32) = nI 10 by decide, pk_mul, pk_mul, nI_ltI (by omega) (by omega), nI_ltI (by omega) (by omega)]
    omega
  rw [e48]
  have kk := fun v4 => key N 1 v4 hc' _ b2 (by omega) FU FU (FU_gt (by omega)) (FU_gt (by omega))
  rw [← e1] at kk
  by_cases c : p1 < p2
  · rw [if_pos c, if_pos (cmp.mpr c)]
    exact kk (-1)
  · rw [if_neg c, if_neg (fun z => c (cmp.mp z))]
    exact kk 0
theorem op_ice (H : RR hc hm) (p1 p2 : Int32) : OK2 (fX11_ice p1 p2 hc) (fX12_ice p1 p2 hm) := by
  have H2 := RR_thrown 0 H
  simp only [fX11_ice, fX12_ice, nm_e1, f_isDepthC, f_isDepthM, f_between, f_in, bd_s, if10s]
  refine OK2_if (fun c1 => OK2_if (fun c2 => OK2_if (fun c3 => ?_) (fun _ => OK2_c H2)) (fun _ => OK2_c H2)) (fun _ => OK2_c H2)
  have fin : ∀ (v3 : Int32) (hc hm : HS), DVR hc hm → OK2 (fX11_ice_78 p2 v3 hc) (fX12_ice_72 p2 v3 hm) := by
    intro v3 hc hm D
    obtain ⟨H, d1, d2, -, -⟩ := D
    unfold fX11_ice_78 fX12_ice_72 fX11_ice_97 fX12_ice_88 fX11_ice_129 fX12_ice_114 fX11_ice_152 fX12_ice_132
    rw [Int32.mul_comm p2 10, d1, e_weightC (RR_VNc H), e_weightM (RR_VN H), RR_Wc H, d2]
    simp only [bd_s, nm_e1, if_true, show ¬ (1 : Int32) = 0 by decide, if_false]
    refine OK2_if (fun _ => ?_) (fun _ => ?_)
    · obtain ⟨hc1, hc2, hc3, hm2, hm3, a1, a2, a3, a4, a5, a6, -⟩ := tell2 H (-1) 0
      rw [a1, bv_s, a2, bv_s, a3, bv_s, a4, bv_s, a5, bv_s]
      exact OK2_c a6
    · obtain ⟨hc1, hc2, hc3, hm2, hm3, a1, a2, a3, a4, a5, a6, -⟩ := tell2 H v3 (iabs (gI hm 0 49) * Wm hm / 100)
      rw [a1, bv_s, a2, bv_s, a3, bv_s, a4, bv_s, a5, bv_s]
      exact OK2_if (fun _ => OK2_c a6) (fun _ => OK2_c a6)
  have key : ∀ (k i : Nat) (hc hm : HS), DVR hc hm → i + k = 600 → ∀ n m, k < n → k < m → OK2 (fX11_ice_44 n p2 (nI i) hc) (fX12_ice_44 m p2 (nI i) hm) := by
    intro k
    have e6 : (600 : Int32) = nI 600 := by decide +kernel
    induction k with
    | zero =>
      intro i hc hm D hi n m hn hm1
      obtain ⟨n', rfl⟩ := fuel1 hn
      obtain ⟨m', rfl⟩ := fuel1 hm1
      have f0 := fin (nI i) hc hm D
      rw [fX11_ice_44, fX12_ice_44, e6, if_pos (nI_le (by omega) (by omega)), if_pos (nI_le (by omega) (by omega))]
      by_cases c : gI hc 7 3 ≤ p2 * 10
      · rw [if_pos c]; exact f0
      · rw [if_neg c]; exact f0
    | succ k ih =>
      intro i hc hm D hi n m hn hm1
      obtain ⟨n', rfl⟩ := fuel1 hn
      obtain ⟨m', rfl⟩ := fuel1 hm1
      have f0 := fin (nI i) hc hm D
      obtain ⟨hc', hm', a1, a2, a3⟩ := dv_step D
      rw [fX11_ice_44, fX12_ice_44, e6, if_neg (nI_ge (by omega) (by omega)), if_neg (nI_ge (by omega) (by omega)), Int32.mul_comm p2 10, D.2.1]
      refine OK2_if (fun _ => f0) (fun _ => ?_)
      rw [a1, a2, bv_s, bv_s, nm_e1, nm_e1, nI_1]
      exact ih (i + 1) hc' hm' a3 (by omega) n' m' (by omega) (by omega)
  obtain ⟨hc', b1, b2⟩ := dv_begin H2 p1
  have eM : Mm (pI hm 0 22 0) = Mm hm := rfl
  rw [e_momC (RR_VNc H), bd_s, RR_Mc H]
  unfold fX3_pushOf
  rw [bd_s, ← eM, b1, bv_s, ← nI_0]
  rw [nI_0]
  have kk := key 600 0 hc' _ b2 (by omega) FU FU (FU_gt (by omega)) (FU_gt (by omega))
  rw [nI_0] at kk
  exact kk
end DVF
