section OPL
variable {hc hm : HS}
/-- how many of k from i on are above 0 -/
def cN (f : Nat → Int32) : Nat → Nat → Nat
  | _, 0 => 0
  | i, k + 1 => (if f i ≤ 0 then 0 else 1) + cN f (i + 1) k
theorem cN_le (f : Nat → Int32) : ∀ k i, cN f i k ≤ k
  | 0, _ => Nat.le_refl 0
  | k + 1, i => by
    have := cN_le f k (i + 1)
    rw [cN]
    split <;> omega
theorem l_holdC {h : HS} {N : Nat} (hN : N ≤ 15) (e : gI h 2 8 = nI N) : ∀ (k i : Nat), i + k = N → ∀ (n : Nat), k < n → ∀ s : Nat, fX4_thatHold_4 n (nI s) (nI i) h = some (nI (s + cN (gI h 29) i k), h) := by
  intro k
  induction k with
  | zero =>
    intro i hi n hn s
    obtain ⟨m, rfl⟩ := fuel1 hn
    rw [fX4_thatHold_4, e, if_pos (nI_le (by omega) (by omega))]
    rfl
  | succ k ih =>
    intro i hi n hn s
    obtain ⟨m, rfl⟩ := fuel1 hn
    rw [fX4_thatHold_4, e, if_neg (nI_ge (by omega) (by omega))]
    unfold fX4_thatHold_27
    simp only [inb_n (show i < 15 by omega) (by omega), ck_t, nI_clamp (show i < 2 ^ 31 by omega), nm_e1, nI_1, cN]
    by_cases c : gI h 29 i ≤ 0
    · rw [if_pos c, if_pos c, Int32.add_zero, ih (i + 1) (by omega) m (by omega) s, Nat.zero_add]
    · rw [if_neg c, if_neg c, ih (i + 1) (by omega) m (by omega) (s + 1), Nat.add_assoc]
theorem l_lie9 {h : HS} {N : Nat} (hN : N ≤ 15) (e : gI h 0 0 = nI N) : ∀ (k i : Nat), i + k = N → ∀ (n : Nat), k < n → ∀ s X : Nat, X = s + cN (gI h 4) i k → fX12_lie_9 n (nI s) (nI i) h = if nI X = 0 then some (-2, h) else bd (fX12_draw (nI X) h) (fun r5 h4 => fX12_lie_55 FU r5 0 h4) := by
  intro k
  induction k with
  | zero =>
    intro i hi n hn s X hX
    obtain ⟨m, rfl⟩ := fuel1 hn
    rw [cN, Nat.add_zero] at hX
    subst hX
    rw [fX12_lie_9, e, if_pos (nI_le (by omega) (by omega))]
  | succ k ih =>
    intro i hi n hn s X hX
    obtain ⟨m, rfl⟩ := fuel1 hn
    rw [cN] at hX
    rw [fX12_lie_9, e, if_neg (nI_ge (by omega) (by omega))]
    unfold fX12_lie_32
    simp only [inb_n (show i < 15 by omega) (by omega), ck_t, nI_clamp (show i < 2 ^ 31 by omega), nm_e1, nI_1]
    by_cases c : gI h 4 i ≤ 0
    · rw [if_pos c] at hX
      rw [if_pos c, Int32.add_zero]
      exact ih (i + 1) (by omega) m (by omega) s X (by omega)
    · rw [if_neg c] at hX
      rw [if_neg c]
      exact ih (i + 1) (by omega) m (by omega) (s + 1) X (by omega)
theorem hold_both (H : RR hc hm) : ∀ (k i t : Nat), i + k = nLd hm → t < cN (gI hm 4) i k → ∀ n m, k < n → k < m → ∃ l, l < nLd hm ∧ fX4_holding_4 n (nI t) (nI i) hc = some (nI l, hc) ∧ fX12_lie_55 m (nI t) (nI i) hm = ck (inb (nI l) 15) (bd (fX12_draw (gI hm 4 (nI l).toNatClampNeg + 1) hm) (fun r13 h12 => ck (inb (nI l) 15) (nm (pI h12 5 (nI l).toNatClampNeg r13) (fun h14 => some (nI l, h14))))) := by
  have h15 := RR_15 H
  have l5 := H.1.1.2.2.2.2.1
  intro k
  induction k with
  | zero => intro i t hi ht; exact absurd ht (Nat.not_lt_zero t)
  | succ k ih =>
    intro i t hi ht n m hn hm1
    obtain ⟨n', rfl⟩ := fuel1 hn
    obtain ⟨m', rfl⟩ := fuel1 hm1
    obtain ⟨-, -, -, x1, x2, x3⟩ := H.2.1.1.2 i (by omega)
    rw [fX4_holding_4, fX12_lie_55, RR_eC H, if_neg (nI_ge (by omega) (by omega))]
    unfold fX12_lie_68 fX12_lie_83
    simp only [inb_n (show i < 15 by omega) (by omega), ck_t, nI_clamp (show i < 2 ^ 31 by omega), nm_e1, nI_1, l5]
    rw [cN] at ht
    by_cases c : gI hm 4 i ≤ 0
    · have c0 : gI hm 4 i = 0 := by
        apply Int32.toInt_inj.mp
        have := i32_le.mp c
        rw [i32_z] at this ⊢
        omega
      rw [if_pos c] at ht
      obtain ⟨l, a1, a2, a3⟩ := ih (i + 1) t (by omega) (by omega) n' m' (by omega) (by omega)
      refine ⟨l, a1, ?_, ?_⟩
      · rw [if_pos c]; exact a2
      · rw [if_pos c0, if_pos c, Int32.sub_zero]; exact a3
    · have c0 : ¬ gI hm 4 i = 0 := fun z => c (by rw [z]; decide)
      rw [if_neg c] at ht
      cases t with
      | zero =>
        refine ⟨i, by omega, ?_, ?_⟩
        · rw [if_neg c, if_pos nI_0]
        · rw [if_neg c0, if_pos (by rw [nI_0]; decide)]
          simp only [inb_n (show i < 15 by omega) (by omega), ck_t, nI_clamp (show i < 2 ^ 31 by omega), nm_e1]
      | succ t =>
        have := cN_le (gI hm 4) k (i + 1)
        obtain ⟨l, a1, a2, a3⟩ := ih (i + 1) t (by omega) (by omega) n' m' (by omega) (by omega)
        refine ⟨l, a1, ?_, ?_⟩
        · rw [if_neg c, if_neg (nI_ne0 (by omega) (by omega)), pk_m1]; exact a2
        · rw [if_neg c0, if_neg (nI_nle (by omega) (by omega)), if_neg c, nI_pred]; exact a3
theorem iush16 (x : Int32) : iush x 16 = nI (x.toBitVec.toNat / 65536) := by
  have h : (iush x 16).toBitVec.toNat = x.toBitVec.toNat / 2 ^ 16 := pk_ushr x 16 16 (by decide)
  have := x.toBitVec.isLt
  apply Int32.toBitVec_inj.1
  apply BitVec.eq_of_toNat_eq
  rw [pk_tn (by omega)]
  exact h
theorem draw_both (H : RR hc hm) {c : Nat} (hc2 : c + 1 < 2 ^ 31) : ∃ t hc' hm', t < c + 1 ∧ fX0_draw (nI (c + 1)) hc = some (nI t, hc') ∧ fX12_draw (nI (c + 1)) hm = some (nI t, hm') ∧ RR hc' hm' ∧ (∀ b j, ¬ (b = 0 ∧ j = 17) → gI hm' b j = gI hm b j) := by
  have er : gI hc 1 8 = gI hm 0 17 := H.1.2.1.2.2.2.2.2.2.2.2.2.2.2
  have hz : nz (nI (c + 1)) = true := decide_eq_true (nI_ne0 (by omega) hc2)
  unfold fX0_draw fX12_draw
  simp only [nm_e1, if_neg (nI_nle (show 0 < c + 1 by omega) hc2), hz, ck_t, er, gI_pI, and_self, if_true, iush16]
  generalize gI hm 0 17 * 1103515245 + 12345 = R
  have := R.toBitVec.isLt
  refine ⟨R.toBitVec.toNat / 65536 % (c + 1), pI hc 1 8 R, pI hm 0 17 R, Nat.mod_lt _ (by omega), ?_, ?_, ?_, fun b j z => by rw [gI_pI, if_neg z]⟩
  · rw [irm, pk_rem (by omega) (by omega) hc2]
  · rw [irm, pk_rem (by omega) (by omega) hc2]
  · refine RR_upB (cg_pI rfl cg_rf) (cg_pI rfl cg_rf) ?_ ?_ H
    · have hb := H.1.2.1
      simp only [RB] at hb
      simp [RB, gI_pI, gI_pIr, hb]
    · simpa [IB, VY, nLy, gI_pI, gI_pIr] using H.2.1.2.1
theorem op_lie (H : RR hc hm) : OK2 (fX11_lie hc) (fX12_lie hm) := by
  have H2 := RR_thrown 0 H
  have h15 := RR_15 H
  have eM : gI (pI hm 0 22 0) 0 0 = nI (nLd hm) := RR_eM H2
  have e29 : gI hc 29 = gI hm 4 := funext H.1.1.2.2.2.2.1
  have e4 : gI (pI hm 0 22 0) 4 = gI hm 4 := gI_pIr (by decide)
  unfold fX11_lie fX12_lie fX4_thatHold
  rw [nm_e1, nI_z0 (fun z => fX4_thatHold_4 FU z z hc), nI_z0 (fun z => fX12_lie_9 FU z z (pI hm 0 22 0))]
  rw [l_holdC h15 (RR_eC H) (nLd hm) 0 (by omega) FU (FU_gt (by omega)) 0, l_lie9 h15 eM (nLd hm) 0 (by omega) FU (FU_gt (by omega)) 0 _ rfl, bd_s, e29, e4, Nat.zero_add]
  have hle := cN_le (gI hm 4) (nLd hm) 0
  generalize hq : cN (gI hm 4) 0 (nLd hm) = q at hle
  cases q with
  | zero =>
    rw [if_pos nI_0, if_pos nI_0]
    exact OK2_c H2
  | succ c =>
    rw [if_neg (nI_ne0 (by omega) (by omega)), if_neg (nI_ne0 (by omega) (by omega))]
    obtain ⟨t, hc1, hm1, a1, a2, a3, a4, a5⟩ := draw_both H2 (c := c) (by omega)
    have en : nLd hm1 = nLd hm := by show (gI hm1 0 0).toNatClampNeg = (gI hm 0 0).toNatClampNeg; rw [a5 0 0 (by decide), gI_pI, if_neg (by decide)]
    have e41 : gI hm1 4 = gI hm 4 := funext fun j => by rw [a5 4 j (by omega), e4]
    rw [a2, a3, bd_s, bd_s]
    obtain ⟨l, b1, b2, b3⟩ := hold_both a4 (nLd hm) 0 t (by omega) (by rw [e41, hq]; exact a1) FU FU (FU_gt (by omega)) (FU_gt (by omega))
    unfold fX4_holding
    rw [nI_z0 (fun z => fX4_holding_4 FU (nI t) z hc1), nI_z0 (fun z => fX12_lie_55 FU (nI t) z hm1), b2, b3, bd_s]
    rw [f_thereC (show nLd hm1 < 2 ^ 31 by omega) (RR_eC a4), bd_s, if10s, if_pos (show ∃ a, a < nLd hm1 ∧ nI l = nI a from ⟨l, b1, rfl⟩)]
    simp only [inb_n (show l < 15 by omega) (by omega), ck_t, nI_clamp (show l < 2 ^ 31 by omega)]
    obtain ⟨-, -, -, x1, x2, x3⟩ := a4.2.1.1.2 l b1
    obtain ⟨M, hM, eM2⟩ : ∃ M : Nat, M ≤ 999 ∧ gI hm1 4 l = nI M := ⟨(gI hm1 4 l).toInt.toNat, by omega, i32_eqI (by omega)⟩
    obtain ⟨u, hc3, hm3, d1, d2, d3, d4, d5⟩ := draw_both a4 (c := M) (by omega)
    rw [a4.1.1.2.2.2.2.1 l, eM2, nI_1, d2, d3, bd_s, bd_s, nm_e1, nm_e1]
    refine OK2_c (RR_has2 (onlyH_p onlyH_r) (onlyH_p onlyH_r) (fun k => ?_) (fun k hk => ?_) d4)
    · simp only [gI_pI, d4.1.1.2.2.2.2.2, true_and]
    · obtain ⟨-, -, -, y1, y2, y3⟩ := d4.2.1.1.2 k hk
      rw [gI_pI]
      by_cases z : k = l
      · subst z
        rw [if_pos ⟨rfl, rfl⟩, d5 4 k (by omega), eM2, nI_toInt (by omega), nI_toInt (by omega)]
        omega
      · rw [if_neg (fun q => z q.2)]
        exact ⟨y1, y2⟩
/-- what was kept comes back -/
theorem l_again {i M : Nat} (hi : i < 3) (hM : M ≤ 15) : ∀ (k l : Nat) (h : HS), l + k = M → gI h 34 i = nI M → ∀ n, k < n → ∃ h', fX12_again_57 n (nI i) (nI l) h = some (1, h') ∧ onlyH h h' 5 ∧ ∀ j, gI h' 5 j = if l ≤ j ∧ j < M then gI h 35 (15 * i + j) else gI h 5 j := by
  intro k
  induction k with
  | zero =>
    intro l h hl e n hn
    obtain ⟨m, rfl⟩ := fuel1 hn
    refine ⟨h, ?_, onlyH_r, fun j => by rw [if_neg (by omega)]⟩
    rw [fX12_again_57, inb_n hi (by omega), ck_t, nI_clamp (by omega), e, if_pos (nI_le (by omega) (by omega))]
  | succ k ih =>
    intro l h hl e n hn
    obtain ⟨m, rfl⟩ := fuel1 hn
    obtain ⟨h', a1, a2, a3⟩ := ih (l + 1) (pI h 5 l (gI h 35 (15 * i + l))) (by omega) (by rw [gI_pI, if_neg (by omega)]; exact e) m (by omega)
    refine ⟨h', ?_, onlyH_t (onlyH_p onlyH_r) a2, fun j => ?_⟩
    · rw [fX12_again_57, inb_n hi (by omega), ck_t, nI_clamp (by omega), e, if_neg (nI_ge (by omega) (by omega)), l15 hi (by omega), inb_n (show l < 15 by omega) (by omega), inb_n (show 15 * i + l < 45 by omega) (by omega), ck_t, ck_t, nm_e1, nm_e1, nI_clamp (by omega), nI_clamp (by omega), nI_1]
      exact a1
    · rw [a3 j]
      by_cases z : j = l
      · subst z
        rw [if_neg (by omega), if_pos (by omega), gI_pI, if_pos ⟨rfl, rfl⟩]
      · by_cases y : l + 1 ≤ j ∧ j < M
        · rw [if_pos y, if_pos (by omega), gI_pI, if_neg (by omega)]
        · rw [if_neg y, if_neg (by omega), gI_pI, if_neg (fun q => z q.2)]
theorem op_again (H : RR hc hm) (p1 : Int32) : OK2 (fX11_again p1 hc) (fX12_again p1 hm) := by
  have H2 := RR_thrown 0 H
  have h15 := RR_15 H
  simp only [fX11_again, fX12_again, nm_e1, f_between, f_in, bd_s, if10s]
  refine OK2_if (fun c1 => ?_) (fun _ => OK2_c H2)
  obtain ⟨i, hi, rfl⟩ : ∃ i, i < 3 ∧ p1 = nI i := by
    have r := rngI 0 2 c1
    exact ⟨p1.toInt.toNat, by omega, i32_eqI (by omega)⟩
  have g : ∀ b k, ¬ b = 0 → gI (pI hm 0 22 0) b k = gI hm b k := fun b k hb => by rw [gI_pI, if_neg (fun q => hb q.1)]
  obtain ⟨E1, E2, E3, E4⟩ := H.1.2.2.2.2.2.2.2.2.1
  obtain ⟨u1, u2, u3, u4⟩ := E1 i hi
  unfold fX0_takeAgain
  simp only [inb_n hi (by omega), ck_t, nI_clamp (show i < 2 ^ 31 by omega), g 33 _ (by decide)]
  by_cases k0 : gI hm 33 i = 0
  · rw [if_pos (u2 k0), if_pos k0]
    exact OK2_c H2
  · obtain ⟨v1, M, v2, v3, v4⟩ := H.2.1.2.2.2.2 i hi k0
    have e22 : gI hc 22 i = nI M := (u3 k0).trans v3
    rw [if_neg (by rw [e22]; exact fun z => m1_ne (by omega) z.symm), if_neg k0, e22]
    have cp : cpok 0 0 (nI M) 15 15 = true := by
      unfold cpok
      refine decide_eq_true ⟨by decide, by decide, nI_pos (by omega), ?_, ?_⟩ <;> rw [nI_clamp (by omega), cl0] <;> omega
    simp only [cp, ck_t, nm_e1, cl0, nI_clamp (show M < 2 ^ 31 by omega), bv_s]
    have e34 : gI (pI (pI (pI (pI hm 0 22 0) 0 15 (gI (pI hm 0 22 0) 36 i)) 0 16 (gI (pI (pI hm 0 22 0) 0 15 (gI (pI hm 0 22 0) 36 i)) 37 i)) 0 17 (gI (pI (pI (pI hm 0 22 0) 0 15 (gI (pI hm 0 22 0) 36 i)) 0 16 (gI (pI (pI hm 0 22 0) 0 15 (gI (pI hm 0 22 0) 36 i)) 37 i)) 38 i)) 34 i = nI M := by simp [gI_pI, v3]
    have eA : pI (pI (pI (pI hm 0 22 0) 0 15 (gI (pI hm 0 22 0) 36 i)) 0 16 (gI (pI (pI hm 0 22 0) 0 15 (gI (pI hm 0 22 0) 36 i)) 37 i)) 0 17 (gI (pI (pI (pI hm 0 22 0) 0 15 (gI (pI hm 0 22 0) 36 i)) 0 16 (gI (pI (pI hm 0 22 0) 0 15 (gI (pI hm 0 22 0) 36 i)) 37 i)) 38 i) = pI (pI (pI (pI hm 0 22 0) 0 15 (gI hm 36 i)) 0 16 (gI hm 37 i)) 0 17 (gI hm 38 i) := by simp [gI_pI]
    rw [eA] at e34 ⊢
    have HB : RR (pI (pI (pI hc 1 6 (gI hm 36 i)) 1 7 (gI hm 37 i)) 1 8 (gI hm 38 i)) (pI (pI (pI (pI hm 0 22 0) 0 15 (gI hm 36 i)) 0 16 (gI hm 37 i)) 0 17 (gI hm 38 i)) := by
      refine RR_upB (cg_pI rfl (cg_pI rfl (cg_pI rfl cg_rf))) (cg_pI rfl (cg_pI rfl (cg_pI rfl (cg_pI rfl cg_rf)))) ?_ ?_ H
      · have hb := H.1.2.1
        simp only [RB] at hb
        simp [RB, gI_pI, gI_pIr, hb]
      · have hi := H.2.1.2.1
        simp only [IB, VY, nLy] at hi
        simp [IB, VY, nLy, gI_pI, gI_pIr, hi, v1]
        exact hi.2.2.2.2.2.2.1
    obtain ⟨hm', a1, a2, a3⟩ := l_again hi (by omega : M ≤ 15) M 0 _ (by omega) e34 FU (FU_gt (by omega))
    rw [nI_0] at a1
    rw [a1]
    refine OK2_c (RR_has2 (fun b j hb => ?_) a2 (fun k => ?_) (fun k hk => ?_) HB)
    · simp only [gI_pI, gI_cpI, if_neg hb, E2, E3, E4, if_neg (show ¬ 23 = 30 by decide), if_neg (show ¬ 24 = 30 by decide), if_neg (show ¬ 25 = 30 by decide), if_neg (show ¬ (24 = 1 ∧ i = 6) by omega), if_neg (show ¬ (25 = 1 ∧ i = 7) by omega), if_neg (show ¬ (25 = 1 ∧ i = 6) by omega)]
    · rw [a3 k]
      simp only [gI_pI, gI_cpI, if_true, if_neg (show ¬ (30 = 1 ∧ k = 8) by omega), if_neg (show ¬ (30 = 1 ∧ k = 7) by omega), if_neg (show ¬ (30 = 1 ∧ k = 6) by omega), if_neg (show ¬ (35 = 0 ∧ 15 * i + k = 17) by omega), if_neg (show ¬ (35 = 0 ∧ 15 * i + k = 16) by omega), if_neg (show ¬ (35 = 0 ∧ 15 * i + k = 15) by omega), if_neg (show ¬ (35 = 0 ∧ 15 * i + k = 22) by omega), if_neg (show ¬ (5 = 0 ∧ k = 17) by omega), if_neg (show ¬ (5 = 0 ∧ k = 16) by omega), if_neg (show ¬ (5 = 0 ∧ k = 15) by omega), if_neg (show ¬ (5 = 0 ∧ k = 22) by omega)]
      by_cases z : k < M
      · rw [pk_cpy_in (by omega) (by omega), if_pos ⟨by omega, z⟩, ← u4 k (by omega), rowKe_pl _ hi]
        rw [Nat.zero_add, Nat.sub_zero]
        rfl
      · rw [pk_cpy_out (by omega), if_neg (fun q => z q.2)]
        exact H.1.1.2.2.2.2.2 k
    · have eN : nLd (pI (pI (pI (pI hm 0 22 0) 0 15 (gI hm 36 i)) 0 16 (gI hm 37 i)) 0 17 (gI hm 38 i)) = nLd hm := rfl
      rw [eN] at hk
      obtain ⟨-, -, -, y1, y2, y3⟩ := H.2.1.1.2 k hk
      rw [a3 k]
      simp only [gI_pI, if_neg (show ¬ (4 = 0 ∧ k = 17) by omega), if_neg (show ¬ (4 = 0 ∧ k = 16) by omega), if_neg (show ¬ (4 = 0 ∧ k = 15) by omega), if_neg (show ¬ (4 = 0 ∧ k = 22) by omega), if_neg (show ¬ (35 = 0 ∧ 15 * i + k = 17) by omega), if_neg (show ¬ (35 = 0 ∧ 15 * i + k = 16) by omega), if_neg (show ¬ (35 = 0 ∧ 15 * i + k = 15) by omega), if_neg (show ¬ (35 = 0 ∧ 15 * i + k = 22) by omega), if_neg (show ¬ (5 = 0 ∧ k = 17) by omega), if_neg (show ¬ (5 = 0 ∧ k = 16) by omega), if_neg (show ¬ (5 = 0 ∧ k = 15) by omega), if_neg (show ¬ (5 = 0 ∧ k = 22) by omega)]
      by_cases z : k < M
      · rw [if_pos ⟨by omega, z⟩]
        exact v4 k z
      · rw [if_neg (fun q => z q.2)]
        exact ⟨y1, y2⟩
end OPL
