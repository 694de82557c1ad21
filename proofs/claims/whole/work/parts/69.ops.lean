section LIA
variable {hc hm : HS}
theorem lg0 (a b : Int64) : lg_cmp a b = 0 ↔ a = b := by
  unfold lg_cmp
  by_cases h : a = b
  · subst h
    simp
  · rw [if_neg h]
    constructor
    · intro z
      split at z <;> exact absurd z (by decide)
    · intro z; exact absurd z h
/-- what a row leaves as it was -/
theorem row_same {hm' : HS} (s : ∀ b j, ¬ b = 10 → ¬ (b = 0 ∧ j = 21) → gI hm' b j = gI hm b j) : nLd hm' = nLd hm ∧ (∀ d, Hm hm' d = Hm hm d) ∧ Mm hm' = Mm hm ∧ Tm hm' = Tm hm := by
  obtain ⟨a1, -, -, a4, -, a5⟩ := sm_M (h := hm) (h' := hm') (s _ _ (by decide) (by decide)) (s _ _ (by decide) (by decide)) (s _ _ (by decide) (by decide)) (s _ _ (by decide) (by decide)) (s _ _ (by decide) (by decide)) (s _ _ (by decide) (by decide)) (s _ _ (by decide) (by decide)) (fun j => s _ _ (by omega) (by omega)) (fun j => s _ _ (by omega) (by omega)) (fun j => s _ _ (by omega) (by omega)) (fun j => s _ _ (by omega) (by omega))
  obtain ⟨b1, b2, b3⟩ := a5 (fun j => s _ _ (by omega) (by omega))
  refine ⟨a1, fun d => ?_, b2, b3⟩
  unfold Hm
  rw [b1, a4]
theorem op_liar (H : RR hc hm) (p1 p2 p3 p4 : Int32) : OK2 (fX11_liar p1 p2 p3 p4 hc) (fX12_liar p1 p2 p3 p4 hm) := by
  have H2 := RR_thrown 0 H
  have h15 := RR_15 H
  simp only [fX11_liar, fX12_liar, nm_e1, f_isDepthC, f_isDepthM, bd_s, if10s]
  refine OK2_if (fun c1 => ?_) (fun _ => OK2_c H2)
  rw [e_heavyC (RR_VNc H) (RR_VYc H), bd_s, RR_Hc H, e_momC (RR_VNc H), bd_s, RR_Mc H, e_listC (RR_VNc H), bd_s, RR_Tc H]
  obtain ⟨r1, r2, r3⟩ := row0 H2
  rw [r1, bv_s]
  generalize eH0 : Hm hm p1 = H0
  generalize eM0 : Mm hm = M0
  generalize eT0 : Tm hm = T0
  have key : ∀ (k i : Nat) (v11 : Int32) (hc hm : HS), RR hc hm → i + k = nLd hm → gI hm 0 21 = nI i → Hm hm p1 = H0 → Mm hm = M0 → Tm hm = T0 → ∀ n m, k < n → k < m → OK2 (fX11_liar_63 n (p2.toInt64 - H0.toInt64) (p3.toInt64 - M0.toInt64) (p4.toInt64 - T0.toInt64) v11 (nI i) hc) (fX12_liar_25 m p1 p2 p3 p4 v11 (nI i) hm) := by
    intro k
    induction k with
    | zero =>
      intro i v11 hc hm H hi _ _ _ _ n m hn hm1
      have h15 := RR_15 H
      obtain ⟨n', rfl⟩ := fuel1 hn
      obtain ⟨m', rfl⟩ := fuel1 hm1
      rw [fX11_liar_63, fX12_liar_25, RR_eC H, RR_eM H, if_pos (nI_le (by omega) (by omega)), if_pos (nI_le (by omega) (by omega))]
      exact OK2_c H
    | succ k ih =>
      intro i v11 hc hm H hi er eH eM eT n m hn hm1
      have h15 := RR_15 H
      obtain ⟨n', rfl⟩ := fuel1 hn
      obtain ⟨m', rfl⟩ := fuel1 hm1
      generalize hv5 : p2.toInt64 - H0.toInt64 = v5 at *
      generalize hv7 : p3.toInt64 - M0.toInt64 = v7 at *
      generalize hv9 : p4.toInt64 - T0.toInt64 = v9 at *
      have fin : ∀ (s0 : Int32) (v13 : Int64), OK2 (fX11_liar_160 (fX11_liar_63 n') v5 v7 v9 v11 (nI i) v13 s0 hc) (fX12_liar_142 (fX12_liar_25 m') p1 p2 p3 p4 v11 (nI i) v13 s0 hm) := by
        intro s0 v13
        have stp : ∀ s1 w : Int32, OK2 (bv (fX6_add s1 hc) (fun h25 => fX11_liar_63 n' v5 v7 v9 (v11 ||| w) (nI (i + 1)) h25)) (bv (fX12_tell s1 hm) (fun h25 => fX12_liar_25 m' p1 p2 p3 p4 (v11 ||| w) (nI (i + 1)) h25)) := by
          intro s1 w
          obtain ⟨b1, b2, b3, b4⟩ := row1 H er (by omega) s1
          obtain ⟨u1, u2, u3, u4⟩ := row_same (hm := hm) (hm' := pI (pI hm 10 i s1) 0 21 (nI (i + 1))) (fun b j z1 z2 => by rw [gI_pI, if_neg z2, gI_pI, if_neg (fun z => z1 z.1)])
          rw [b1, b2, bv_s, bv_s]
          exact ih (i + 1) (v11 ||| w) _ _ b3 (by rw [u1]; omega) b4 ((u2 p1).trans eH) (u3.trans eM) (u4.trans eT) n' m' (by omega) (by omega)
        unfold fX11_liar_160 fX12_liar_142 fX11_liar_178 fX12_liar_157 fX11_liar_196 fX12_liar_175
        simp only [nm_e1, nI_1]
        by_cases z : s0 = 0
        · simp only [if_pos z]
          exact stp (-1) 0
        · simp only [if_neg z]
          exact stp _ _
      have e7 : (gI hm 5 i).toInt64 + p2.toInt64 - H0.toInt64 = (gI hm 5 i).toInt64 + v5 := by rw [← hv5]; grind
      have e9 : (gI hm 5 i).toInt64 + v5 - (gI hm 5 i).toInt64 = v5 := by grind
      have c3 : ∀ X : Int64, (lg_cmp (M0.toInt64 + X * v5) p3.toInt64 = 0) ↔ (lg_cmp (X * v5) v7 = 0) := fun X => by rw [lg0, lg0, ← hv7]; constructor <;> intro z <;> grind
      have c4 : ∀ X : Int64, (lg_cmp (T0.toInt64 + X * v5) p4.toInt64 = 0) ↔ (lg_cmp (X * v5) v9 = 0) := fun X => by rw [lg0, lg0, ← hv9]; constructor <;> intro z <;> grind
      rw [fX11_liar_63, fX12_liar_25, RR_eC H, RR_eM H, if_neg (nI_ge (by omega) (by omega)), if_neg (nI_ge (by omega) (by omega)), e_heavyM (RR_VN H) (RR_VY H), bd_s, eH]
      unfold fX11_liar_159 fX12_liar_141
      simp only [inb_n (show i < 15 by omega) (by omega), ck_t, nI_clamp (show i < 2 ^ 31 by omega), nm_e1, H.1.1.2.2.2.2.2, H.1.1.2.2.2.2.1, H.1.1.2.2.1, H.1.1.2.2.2.1, e7, e9, e_momM0 (RR_VN H), e_momM1 (RR_VN H) (show ¬ (1 : Int32) = 0 by decide), bd_s, eM, eT, c3, c4]
      exact OK2_if (fun _ => fin 0 _) (fun _ => OK2_if (fun _ => fin 0 _) (fun _ => OK2_if (fun _ => OK2_if (fun _ => fin 1 _) (fun _ => fin 0 _)) (fun _ => fin 0 _)))
  have k0 := key (nLd hm) 0 0 _ _ r2 (Nat.zero_add _) r3 eH0 eM0 eT0 FU FU (FU_gt (by omega)) (FU_gt (by omega))
  rw [nI_0] at k0
  exact k0
end LIA
