section DVH
variable {hc hm : HS}
theorem wV_set {f g : Nat → Int32} {b : Int32} {i n : Nat} (H : ∀ j, ¬ j = i → g j = f j) (hi : i < n) : wV b g n = wV b f n + (g i - f i) := by
  unfold wV
  rw [sR_set H n 0 (by omega) (by omega)]
  grind
theorem mV_set {f g x : Nat → Int32} {b : Int32} {i n : Nat} (H : ∀ j, ¬ j = i → g j = f j) (hi : i < n) : mV b x g n = mV b x f n + x i * (g i - f i) := by
  unfold mV
  rw [sR_set (f := fun l => x l * f l) (g := fun l => x l * g l) (i := i) (fun j hj => by show x j * g j = x j * f j; rw [H j hj]) n 0 (by omega) (by omega)]
  grind
theorem i32_ns (y : Int32) : ¬ y = y + 1 := by
  intro z
  have h1 : y + 1 - y = 1 := by grind
  have h2 : y - y = (0 : Int32) := by grind
  rw [← z, h2] at h1
  exact absurd h1 (by decide)
theorem op_forward (H : RR hc hm) (p1 p2 p3 p4 p5 : Int32) : OK2 (fX11_forward p1 p2 p3 p4 p5 hc) (fX12_forward p1 p2 p3 p4 p5 hm) := by
  have H2 := RR_thrown 0 H
  have h15 := RR_15 H
  have d1 : ∀ x k : Int32, Decidable (isK hm x k) := fun _ _ => Classical.propDecidable _
  have d2 : ∀ x k : Int32, Decidable (isK (pI hm 0 22 0) x k) := fun _ _ => Classical.propDecidable _
  have g : ∀ b i, ¬ b = 0 → gI (pI hm 0 22 0) b i = gI hm b i := fun b i hb => by rw [gI_pI, if_neg (fun q => hb q.1)]
  simp only [fX11_forward, fX11_forward_33, fX11_forward_34, fX12_forward, nm_e1, e_isA H _ _ (d1 _ _), e_isOf H2 _ _ (d2 _ _), bd_s, if10s, f_between, f_in, f_isDepthC, f_isDepthM, if_true, show ¬ (1 : Int32) = 0 by decide, if_false]
  by_cases c1 : isK hm p1 2
  · rw [if_pos c1, if_pos ((isK_t 0 p1 2).mpr c1)]
    by_cases c2 : isK hm p2 2
    · rw [if_pos c2, if_pos ((isK_t 0 p2 2).mpr c2)]
      refine OK2_if (fun _ => OK2_c H2) (fun cne => OK2_if (fun c3 => OK2_if (fun c4 => OK2_if (fun c5 => ?_) (fun _ => OK2_c H2)) (fun _ => OK2_c H2)) (fun _ => OK2_c H2))
      obtain ⟨i, hi, rfl, -⟩ := c1
      obtain ⟨j, hj, rfl, -⟩ := c2
      have hij : ¬ i = j := fun z => cne (by rw [z])
      obtain ⟨N, hN, rfl⟩ := upto 600 (by decide +kernel) c5
      have hrC : fX4_room (nI j) hc = some (gI hm 4 j - gI hm 5 j, hc) := by
        unfold fX4_room
        rw [f_thereC (by omega) (RR_eC H), bd_s, if10s, if_pos (show ∃ a, a < nLd hm ∧ nI j = nI a from ⟨j, hj, rfl⟩)]
        simp only [inb_n (show j < 15 by omega) (by omega), ck_t, nI_clamp (show j < 2 ^ 31 by omega)]
        rw [H.1.1.2.2.2.2.1 j, H.1.1.2.2.2.2.2 j]
      have hrM : fX12_roomOf (nI j) (pI hm 0 22 0) = some (gI hm 4 j - gI hm 5 j, pI hm 0 22 0) := by
        unfold fX12_roomOf
        simp only [inb_n (show j < 15 by omega) (by omega), ck_t, nI_clamp (show j < 2 ^ 31 by omega)]
        rw [g 4 j (by decide), g 5 j (by decide)]
      obtain ⟨-, -, -, x1, x2, x3⟩ := H.2.1.1.2 i hi
      obtain ⟨-, -, -, y1, y2, y3⟩ := H.2.1.1.2 j hj
      have er : (gI hm 4 j - gI hm 5 j).toInt = (gI hm 4 j).toInt - (gI hm 5 j).toInt := fb_subI9 (by omega) (by omega)
      have em := imin_toInt (gI hm 5 i) (gI hm 4 j - gI hm 5 j)
      obtain ⟨K, hK, eK⟩ : ∃ n : Nat, n ≤ 999 ∧ imin (gI hm 5 i) (gI hm 4 j - gI hm 5 j) = nI n := ⟨(imin (gI hm 5 i) (gI hm 4 j - gI hm 5 j)).toInt.toNat, by omega, i32_eqI (by omega)⟩
      rw [hrC, hrM, bd_s, bd_s, e_momC (RR_VNc H), bd_s, RR_Mc H]
      simp only [inb_n (show i < 15 by omega) (by omega), inb_n (show j < 15 by omega) (by omega), ck_t, nI_clamp (show i < 2 ^ 31 by omega), nI_clamp (show j < 2 ^ 31 by omega), H.1.1.2.2.2.2.2, g 5 _ (by decide), eK, H.1.1.2.2.1, fX3_pushOf, bd_s]
      have key : ∀ (k a : Nat) (tr : Int32) (hc' hm' : HS), RR hc' hm' → (∀ b l, ¬ (b = 0 ∧ (l = 48 ∨ l = 49 ∨ l = 22)) → ¬ b = 11 → gI hm' b l = gI hm b l) → a + k = K + 1 → (arrP (Wm hm) (Lm hm) tr (10 * p4) N 0 (10 * p3) 0 = -1 ∨ (a = 0 ∧ tr = Mm hm / 2000 + 1)) → ∀ n m, k < n → k < m → OK2 (fX11_forward_134 n p3 p4 (nI N) (nI K) (Mm hm) (gI hm 2 j - gI hm 2 i) tr (nI a) hc') (fX12_forward_76 m (nI i) (nI j) p3 p4 (nI N) (nI K) (nI a) hm') := by
        intro k
        induction k with
        | zero =>
          intro a tr hc' hm' H' _ ha _ n m hn hm1
          obtain ⟨n', rfl⟩ := fuel1 hn
          obtain ⟨m', rfl⟩ := fuel1 hm1
          rw [fX11_forward_134, fX12_forward_76, if_pos (nI_lt (by omega) (by omega)), if_pos (nI_lt (by omega) (by omega))]
          exact OK2_c H'
        | succ k ih =>
          intro a tr hc' hm' H' sm ha hv n m hn hm1
          obtain ⟨n', rfl⟩ := fuel1 hn
          obtain ⟨m', rfl⟩ := fuel1 hm1
          have eN : nLd hm' = nLd hm := by show (gI hm' 0 0).toNatClampNeg = (gI hm 0 0).toNatClampNeg; rw [sm 0 0 (by decide) (by decide)]
          obtain ⟨h23, a1, a2, a3, a4⟩ := e_push (h := hm') (q := 0) (by omega) (by rw [nI_0]; exact H'.2.2)
          -- the men have gone
          obtain ⟨h28, e28⟩ : ∃ h, h = pI (pI h23 5 i (gI h23 5 i - nI a)) 5 j (gI (pI h23 5 i (gI h23 5 i - nI a)) 5 j + nI a) := ⟨_, rfl⟩
          have s28 : ∀ b l, ¬ b = 5 → gI h28 b l = gI h23 b l := fun b l hb => by rw [e28, gI_pI, if_neg (fun z => hb z.1), gI_pI, if_neg (fun z => hb z.1)]
          have t28 : ∀ b l, ¬ b = 5 → ¬ b = 11 → ¬ (b = 0 ∧ l = 24) → gI h28 b l = gI hm' b l := fun b l h1 h2 h3 => (s28 b l h1).trans (a3 b l h2 h3)
          obtain ⟨q1, q2, q3, q4, -, -⟩ := sm_M (h := hm') (h' := h28) (t28 _ _ (by decide) (by decide) (by decide)) (t28 _ _ (by decide) (by decide) (by decide)) (t28 _ _ (by decide) (by decide) (by decide)) (t28 _ _ (by decide) (by decide) (by decide)) (t28 _ _ (by decide) (by decide) (by decide)) (t28 _ _ (by decide) (by decide) (by decide)) (t28 _ _ (by decide) (by decide) (by decide)) (fun l => t28 _ _ (by omega) (by omega) (by omega)) (fun l => t28 _ _ (by omega) (by omega) (by omega)) (fun l => t28 _ _ (by omega) (by omega) (by omega)) (fun l => t28 _ _ (by omega) (by omega) (by omega))
          obtain ⟨-, -, -, r4, -, r5⟩ := sm_M (h := hm) (h' := hm') (sm _ _ (by decide) (by decide)) (sm _ _ (by decide) (by decide)) (sm _ _ (by decide) (by decide)) (sm _ _ (by decide) (by decide)) (sm _ _ (by decide) (by decide)) (sm _ _ (by decide) (by decide)) (sm _ _ (by decide) (by decide)) (fun l => sm _ _ (by omega) (by omega)) (fun l => sm _ _ (by omega) (by omega)) (fun l => sm _ _ (by omega) (by omega)) (fun l => sm _ _ (by omega) (by omega))
          have r6 := r5 (fun l => sm _ _ (by omega) (by omega))
          have e5 : ∀ l, gI h23 5 l = gI hm 5 l := fun l => (a3 5 l (by decide) (by omega)).trans (sm 5 l (by omega) (by decide))
          have f1 : ∀ l, ¬ l = i → gI (pI h23 5 i (gI h23 5 i - nI a)) 5 l = gI hm 5 l := fun l hl => by rw [gI_pI, if_neg (fun z => hl z.2), e5]
          have f1i : gI (pI h23 5 i (gI h23 5 i - nI a)) 5 i = gI hm 5 i - nI a := by rw [gI_pI, if_pos ⟨rfl, rfl⟩, e5]
          have f2 : ∀ l, ¬ l = j → gI h28 5 l = gI (pI h23 5 i (gI h23 5 i - nI a)) 5 l := fun l hl => by rw [e28, gI_pI, if_neg (fun z => hl z.2)]
          have f2j : gI h28 5 j = gI hm 5 j + nI a := by rw [e28, gI_pI, if_pos ⟨rfl, rfl⟩, f1 j (fun z => hij z.symm)]
          have f1j := f1 j (fun z => hij z.symm)
          have eW : Wm h28 = Wm hm := by
            unfold Wm
            rw [q1, eN, wV_set f2 hj, wV_set f1 hi, f2j, f1j, f1i, t28 0 6 (by decide) (by decide) (by decide), sm 0 6 (by decide) (by decide)]
            grind
          have eMm : Mm h28 = Mm hm + nI a * (gI hm 2 j - gI hm 2 i) := by
            have g2 : gI h28 2 = gI hm 2 := funext fun l => (t28 2 l (by decide) (by decide) (by omega)).trans (sm 2 l (by omega) (by decide))
            unfold Mm
            rw [q1, eN, mV_set f2 hj, mV_set f1 hi, f2j, f1j, f1i, g2, t28 0 7 (by decide) (by decide) (by decide), sm 0 7 (by decide) (by decide)]
            grind
          have eL : Lm h28 = Lm hm := funext fun d => (q4 d).trans (r4 d)
          obtain ⟨h30, b1, b2⟩ := e_dives (h := h28) (p1 := p3) (p2 := p4) hN (q2 (RR_VN H')) (q3 (RR_VY H'))
          obtain ⟨h32, k1, k2, k3, k4, k5⟩ := br_pp (h := hm') (h1 := h23) (h2 := h30) (q := 0) (by omega) a4 (by rw [b2 0 24 (by decide), s28 0 24 (by decide), a2]) (fun l => by rw [b2 11 l (by omega), s28 11 l (by decide)]) (fun l hl => by
            rw [b2 5 l (by omega), f2 l (by omega), f1 l (by omega), sm 5 l (by omega) (by decide)])
          have s32 : ∀ b l, ¬ (b = 0 ∧ (l = 48 ∨ l = 49)) → ¬ b = 11 → gI h32 b l = gI hm' b l := fun b l z1 z2 => by
            by_cases z3 : b = 5
            · subst z3; exact k3 l
            · by_cases z4 : b = 0 ∧ l = 24
              · rw [z4.1, z4.2, k2, H'.2.2, nI_0]
              · rw [k5 b l z3 z4, b2 b l z1, t28 b l z3 z2 z4]
          have H32 : RR hc' h32 := RR_48 s32 H'
          have sm32 : ∀ b l, ¬ (b = 0 ∧ (l = 48 ∨ l = 49 ∨ l = 22)) → ¬ b = 11 → gI h32 b l = gI hm b l := fun b l z1 z2 => (s32 b l (fun z => z1 ⟨z.1, by omega⟩) z2).trans (sm b l z1 z2)
          rw [eW, eMm, eL] at b1
          rw [fX11_forward_134, fX12_forward_76, if_neg (nI_nlt (by omega) (by omega)), if_neg (nI_nlt (by omega) (by omega)), a1, bv_s]
          simp only [inb_n (show i < 15 by omega) (by omega), inb_n (show j < 15 by omega) (by omega), ck_t, nI_clamp (show i < 2 ^ 31 by omega), nI_clamp (show j < 2 ^ 31 by omega), nm_e1, nI_1, fX3_pushOf, bd_s]
          rw [← e28, b1, bd_s, k1, bv_s]
          generalize hpu : (Mm hm + nI a * (gI hm 2 j - gI hm 2 i)) / 2000 = pu
          by_cases ct : pu = tr
          · have hR : arrP (Wm hm) (Lm hm) pu (10 * p4) N 0 (10 * p3) 0 = -1 := by
              rcases hv with z | ⟨z1, z2⟩
              · rw [ct]; exact z
              · rw [z2, ← hpu, z1, nI_0, Int32.zero_mul, Int32.add_zero] at ct
                exact absurd ct (i32_ns _)
            rw [if_pos ct, hR, if_pos rfl]
            exact ih (a + 1) tr hc' h32 H32 sm32 (by omega) (Or.inl (by rw [← ct]; exact hR)) n' m' (by omega) (by omega)
          · rw [if_neg ct]
            obtain ⟨hc5, l1, l2, l3, l4, l5, l6⟩ := e_begin H32 p3 pu
            have H5 := RR_73 l2 H32
            obtain ⟨hc6, m1, m2⟩ := arrC (v1 := p4) hN N 0 hc5 (RR_VYc H5) (by omega) FU (FU_gt (by omega))
            have eL5 : Lc hc5 = Lm hm := funext fun d => by
              rw [RR_Lc H5]
              have := sm_M (h := hm) (h' := h32) (sm32 _ _ (by decide) (by decide)) (sm32 _ _ (by decide) (by decide)) (sm32 _ _ (by decide) (by decide)) (sm32 _ _ (by decide) (by decide)) (sm32 _ _ (by decide) (by decide)) (sm32 _ _ (by decide) (by decide)) (sm32 _ _ (by decide) (by decide)) (fun l => sm32 _ _ (by omega) (by omega)) (fun l => sm32 _ _ (by omega) (by omega)) (fun l => sm32 _ _ (by omega) (by omega)) (fun l => sm32 _ _ (by omega) (by omega))
              exact this.2.2.2.1 d
            have eW5 : Wm h32 = Wm hm := by
              have := sm_M (h := hm) (h' := h32) (sm32 _ _ (by decide) (by decide)) (sm32 _ _ (by decide) (by decide)) (sm32 _ _ (by decide) (by decide)) (sm32 _ _ (by decide) (by decide)) (sm32 _ _ (by decide) (by decide)) (sm32 _ _ (by decide) (by decide)) (sm32 _ _ (by decide) (by decide)) (fun l => sm32 _ _ (by omega) (by omega)) (fun l => sm32 _ _ (by omega) (by omega)) (fun l => sm32 _ _ (by omega) (by omega)) (fun l => sm32 _ _ (by omega) (by omega))
              exact (this.2.2.2.2.2 (fun l => sm32 _ _ (by omega) (by omega))).1
            rw [l3, l4, l5, l6, eL5, eW5, Int32.mul_comm p4 10, Int32.mul_comm p3 10, nI_0] at m1
            have H6 := RR_73 m2 H5
            unfold fX3_arrives
            rw [l1, bv_s, m1, bd_s]
            by_cases cR : arrP (Wm hm) (Lm hm) pu (10 * p4) N 0 (10 * p3) 0 = -1
            · rw [if_pos cR, if_pos cR]
              exact ih (a + 1) pu hc6 h32 H6 sm32 (by omega) (Or.inl cR) n' m' (by omega) (by omega)
            · rw [if_neg cR, if_neg cR]
              obtain ⟨hc1, hc2, hm2, n1, n2, n3, n4, -⟩ := tell1 H6 (arrP (Wm hm) (Lm hm) pu (10 * p4) N 0 (10 * p3) 0)
              rw [n1, bv_s, n2, bv_s, n3, bv_s]
              exact OK2_c n4
      have k0 := key (K + 1) 0 (Mm hm / 2000 + 1) hc (pI hm 0 22 0) H2 (fun b l z1 _ => by rw [gI_pI, if_neg (fun z => z1 ⟨z.1, by omega⟩)]) (by omega) (Or.inr ⟨rfl, rfl⟩) FU FU (FU_gt (by omega)) (FU_gt (by omega))
      rw [nI_0] at k0
      exact k0
    · rw [if_neg c2, if_neg (fun z => c2 ((isK_t 0 p2 2).mp z))]
      exact OK2_c H2
  · rw [if_neg c1, if_neg (fun z => c1 ((isK_t 0 p1 2).mp z))]
    exact OK2_c H2
end DVH
