/-! more operations -/
def kcT1 (b j : Nat) : Bool := match b with
  | 46 => true
  | 47 => true
  | 48 => true
  | 49 => true
  | 50 => true
  | 51 => true
  | 53 => true
  | 54 => true
  | 55 => true
  | 56 => true
  | 57 => true
  | 58 => true
  | _ => false
def kmT1 (b j : Nat) : Bool := match b with
  | 0 => j == 0
  | 2 => true
  | 3 => true
  | 22 => true
  | 23 => true
  | _ => false
theorem RG1_cg {hc hc' hm hm' : HS} {t : Nat} (ec : ∀ b j, kcT1 b j = true → gI hc' b j = gI hc b j) (em : ∀ b j, kmT1 b j = true → gI hm' b j = gI hm b j) (H : RG1 hc hm t) : RG1 hc' hm' t := by
  have ec_46 : gI hc' 46 = gI hc 46 := funext fun j => ec 46 j rfl
  have ec_47 : gI hc' 47 = gI hc 47 := funext fun j => ec 47 j rfl
  have ec_48 : gI hc' 48 = gI hc 48 := funext fun j => ec 48 j rfl
  have ec_49 : gI hc' 49 = gI hc 49 := funext fun j => ec 49 j rfl
  have ec_50 : gI hc' 50 = gI hc 50 := funext fun j => ec 50 j rfl
  have ec_51 : gI hc' 51 = gI hc 51 := funext fun j => ec 51 j rfl
  have ec_53 : gI hc' 53 = gI hc 53 := funext fun j => ec 53 j rfl
  have ec_54 : gI hc' 54 = gI hc 54 := funext fun j => ec 54 j rfl
  have ec_55 : gI hc' 55 = gI hc 55 := funext fun j => ec 55 j rfl
  have ec_56 : gI hc' 56 = gI hc 56 := funext fun j => ec 56 j rfl
  have ec_57 : gI hc' 57 = gI hc 57 := funext fun j => ec 57 j rfl
  have ec_58 : gI hc' 58 = gI hc 58 := funext fun j => ec 58 j rfl
  have em_22 : gI hm' 22 = gI hm 22 := funext fun j => em 22 j rfl
  have em_23 : gI hm' 23 = gI hm 23 := funext fun j => em 23 j rfl
  have em_0_0 : gI hm' 0 0 = gI hm 0 0 := em 0 0 rfl
  have em_2 : gI hm' 2 = gI hm 2 := funext fun j => em 2 j rfl
  have em_3 : gI hm' 3 = gI hm 3 := funext fun j => em 3 j rfl
  simp only [RG1, rowMo, rowHo, moF_e, hoF_e, tOK, tS, tA, tO, tV, cW, nLd] at H ⊢
  simp only [ec_46, ec_47, ec_48, ec_49, ec_50, ec_51, ec_53, ec_54, ec_55, ec_56, ec_57, ec_58, em_22, em_23, em_0_0, em_2, em_3]
  exact H
section OPR
variable {hc hm : HS}
theorem nI_lit {x : Int32} {n : Nat} (h : x = nI n := by decide +kernel) : x = nI n := h
theorem op_gauge (H : RR hc hm) (p1 p2 p3 p4 : Int32) : OK2 (fX11_gauge p1 p2 p3 p4 hc) (fX12_gauge p1 p2 p3 p4 hm) := by
  have H2 := RR_thrown 0 H
  simp only [fX11_gauge, fX11_gauge_43, fX11_gauge_44, fX12_gauge, f_between, f_in, f_isDepthC, f_isDepthM, bd_s, nm_e1, if10s, if_true]
  refine OK2_if (fun c1 => OK2_if (fun c2 => OK2_if (fun c3 => OK2_if (fun c4 => ?_) (fun _ => OK2_c H2)) (fun _ => OK2_c H2)) (fun _ => OK2_c H2)) (fun _ => OK2_c H2)
  rw [if_neg (by decide)]
  obtain ⟨g1, g2, g3, g4, g5, g6, ⟨q, q1, q2, q3⟩, g, ga, gb, gc⟩ := H.1.2.2.2.2.2.2.1
  have e0 : gI (pI hm 0 22 0) 0 53 = nI g := by rw [gI_pI, if_neg (by decide)]; exact gb
  have e1 : gI hc 8 6 = nI g := g2.trans gb
  unfold fX9_addGauge
  rw [e0, e1, show (12 : Int32) = nI 12 from nI_lit]
  by_cases c : g = 12
  · subst c
    rw [if_neg (by decide), if_pos rfl]
    exact OK2_c H2
  · rw [if_pos (nI_lt (by omega) (by omega)), if_neg (fun z => c ((nI_eq (by omega) (by omega)).mp z))]
    have u1 : ∀ (h : HS) a k v, ¬ a = 8 → gI (pI h a k v) 8 6 = gI h 8 6 := fun h a k v ha => by rw [gI_pI, if_neg (fun z => ha z.1.symm)]
    have u2 : ∀ (h : HS) a k v, ¬ a = 0 → gI (pI h a k v) 0 53 = gI h 0 53 := fun h a k v ha => by rw [gI_pI, if_neg (fun z => ha z.1.symm)]
    simp only [bd_s, nm_e1, u1 _ 59 _ _ (by decide), u1 _ 60 _ _ (by decide), u1 _ 61 _ _ (by decide), u1 _ 62 _ _ (by decide), u2 _ 24 _ _ (by decide), u2 _ 25 _ _ (by decide), u2 _ 26 _ _ (by decide), u2 _ 27 _ _ (by decide), e0, e1, inb_n (show g < 12 by omega) (by omega), ck_t, nI_clamp (show g < 2 ^ 31 by omega), nI_1]
    rw [show ∀ h : HS, gI (pI h 8 6 (nI (g + 1))) 8 6 = nI (g + 1) from fun h => by rw [gI_pI, if_pos ⟨rfl, rfl⟩], show ∀ h : HS, gI (pI h 0 53 (nI (g + 1))) 0 53 = nI (g + 1) from fun h => by rw [gI_pI, if_pos ⟨rfl, rfl⟩]]
    refine OK2_c (RR_upG (cg_pI rfl (cg_pI rfl (cg_pI rfl (cg_pI rfl (cg_pI rfl cg_rf))))) (cg_pI rfl (cg_pI rfl (cg_pI rfl (cg_pI rfl (cg_pI rfl (cg_pI rfl cg_rf)))))) ?_ H)
    refine ⟨by simp [gI_pI, g1], by simp [gI_pI], fun k => by simp [gI_pI, g3], fun k => by simp [gI_pI, g4], fun k => by simp [gI_pI, g5], fun k => by simp [gI_pI, g6], ⟨q, q1, by simp [gI_pI, q2], fun t ht => ?_⟩, g + 1, by omega, by simp [gI_pI], fun k hk => ?_⟩
    · exact RG1_cg (cg_pI rfl (cg_pI rfl (cg_pI rfl (cg_pI rfl (cg_pI rfl cg_rf))))) (cg_pI rfl (cg_pI rfl (cg_pI rfl (cg_pI rfl (cg_pI rfl (cg_pI rfl cg_rf)))))) (q3 t ht)
    · simp only [gI_pI]
      have r1 := rngI 0 200 c1
      have r2 := rngI 0 600 c2
      have r3 := rngI 0 2 c3
      by_cases z : k = g
      · subst z
        simp [r1, r2, r3]
      · simp [z]
        have := gc k (by omega)
        omega
theorem op_carry (H : RR hc hm) (p1 p2 p3 : Int32) : OK2 (fX11_carry p1 p2 p3 hc) (fX12_carry p1 p2 p3 hm) := by
  have H2 := RR_thrown 0 H
  have hn := RR_15 H
  have d1 : ∀ x k : Int32, Decidable (isK hm x k) := fun _ _ => Classical.propDecidable _
  have eM : gI (pI hm 0 22 0) 0 0 = nI (nLd hm) := RR_eM H2
  simp only [fX11_carry, fX11_carry_24, fX11_carry_48, fX11_carry_52, fX11_carry_53, fX12_carry, nm_e1, e_isA H _ _ (d1 _ _), f_isLoadM (show nLd hm < 2 ^ 31 by omega) eM, bd_s, if10s, f_between, f_in, if_true, show ¬ (1 : Int32) = 0 by decide, if_false]
  have g : ∀ b i, ¬ b = 0 → gI (pI hm 0 22 0) b i = gI hm b i := fun b i hb => by rw [gI_pI, if_neg (fun q => hb q.1)]
  by_cases ca : ∃ i, i < nLd hm ∧ p1 = nI i
  · obtain ⟨i, hi, rfl⟩ := ca
    by_cases cb : ∃ j, j < nLd hm ∧ p2 = nI j
    · obtain ⟨j, hj, rfl⟩ := cb
      have ik : ∀ (a : Nat) (k : Int32), a < nLd hm → (isK hm (nI a) k ↔ gI hm 1 a = k) := fun a k ha => by
        constructor
        · rintro ⟨b, hb, e, hk⟩
          have := (nI_eq (by omega) (by omega)).mp e
          subst this
          exact hk
        · intro hk
          exact ⟨a, ha, rfl, hk⟩
      rw [if_pos (show ∃ a, a < nLd hm ∧ nI i = nI a from ⟨i, hi, rfl⟩), if_pos (show ∃ a, a < nLd hm ∧ nI j = nI a from ⟨j, hj, rfl⟩)]
      have hrC : fX4_room (nI j) hc = some (gI hm 4 j - gI hm 5 j, hc) := by
        unfold fX4_room
        rw [f_thereC (by omega) (RR_eC H), bd_s, if10s, if_pos (show ∃ a, a < nLd hm ∧ nI j = nI a from ⟨j, hj, rfl⟩)]
        simp only [inb_n (show j < 15 by omega) (by omega), ck_t, nI_clamp (show j < 2 ^ 31 by omega)]
        rw [H.1.1.2.2.2.2.1 j, H.1.1.2.2.2.2.2 j]
      have hrM : fX12_roomOf (nI j) (pI hm 0 22 0) = some (gI hm 4 j - gI hm 5 j, pI hm 0 22 0) := by
        unfold fX12_roomOf
        simp only [inb_n (show j < 15 by omega) (by omega), ck_t, nI_clamp (show j < 2 ^ 31 by omega)]
        rw [g 4 j (by decide), g 5 j (by decide)]
      simp only [hrC, hrM, inb_n (show i < 15 by omega) (by omega), inb_n (show j < 15 by omega) (by omega), ck_t, nI_clamp (show i < 2 ^ 31 by omega), nI_clamp (show j < 2 ^ 31 by omega), bd_s, g _ _ (show ¬ 1 = 0 by decide), g _ _ (show ¬ 5 = 0 by decide), H.1.1.2.2.2.2.2]
      have body : ¬ i = j → OK2 (if 1 ≤ p3 ∧ p3 ≤ gI hm 5 i then if p3 ≤ gI hm 4 j - gI hm 5 j then some (1, pI (pI hc 30 i (gI hm 5 i - p3)) 30 j (gI (pI hc 30 i (gI hm 5 i - p3)) 30 j + p3)) else some (0, hc) else some (0, hc)) (if 1 ≤ p3 ∧ p3 ≤ gI hm 5 i then if p3 ≤ gI hm 4 j - gI hm 5 j then some (1, pI (pI (pI hm 0 22 0) 5 i (gI hm 5 i - p3)) 5 j (gI (pI (pI hm 0 22 0) 5 i (gI hm 5 i - p3)) 5 j + p3)) else some (0, pI hm 0 22 0) else some (0, pI hm 0 22 0)) := by
        intro hij
        refine OK2_if (fun c1 => OK2_if (fun c2 => ?_) (fun _ => OK2_c H2)) (fun _ => OK2_c H2)
        rw [show gI (pI hc 30 i (gI hm 5 i - p3)) 30 j = gI hm 5 j by rw [gI_pI, if_neg (fun z => hij z.2.symm)]; exact H.1.1.2.2.2.2.2 j, show gI (pI (pI hm 0 22 0) 5 i (gI hm 5 i - p3)) 5 j = gI hm 5 j by rw [gI_pI, if_neg (fun z => hij z.2.symm), g 5 j (by decide)]]
        refine OK2_c (RR_has (hm := hm) (cg_pI rfl (cg_pI rfl cg_rf)) (cg_pI rfl (cg_pI rfl (cg_pI rfl cg_rf))) (fun k => ?_) (fun k hk => ?_) H)
        · simp only [gI_pI, H.1.1.2.2.2.2.2]
          simp
        · obtain ⟨-, -, -, x1, x2, x3⟩ := H.2.1.1.2 i hi
          obtain ⟨-, -, -, y1, y2, y3⟩ := H.2.1.1.2 j hj
          obtain ⟨-, -, -, z1, z2, z3⟩ := H.2.1.1.2 k hk
          have a1 := i32_le.mp c1.1
          have a2 := i32_le.mp c1.2
          have a3 := i32_le.mp c2
          have t1 : (1 : Int32).toInt = 1 := by decide +kernel
          have e1 : (gI hm 5 i - p3).toInt = (gI hm 5 i).toInt - p3.toInt := fb_subI9 (by omega) (by omega)
          have e2 : (gI hm 4 j - gI hm 5 j).toInt = (gI hm 4 j).toInt - (gI hm 5 j).toInt := fb_subI9 (by omega) (by omega)
          have e3 : (gI hm 5 j + p3).toInt = (gI hm 5 j).toInt + p3.toInt := fb_addI9 (by omega) (by omega)
          by_cases kj : k = j
          · subst kj
            rw [gI_pI, if_pos ⟨rfl, rfl⟩]
            omega
          · rw [gI_pI, if_neg (fun z => kj z.2)]
            by_cases ki : k = i
            · subst ki
              rw [gI_pI, if_pos ⟨rfl, rfl⟩]
              omega
            · rw [gI_pI, if_neg (fun z => ki z.2), g 5 k (by decide)]
              exact ⟨z1, z2⟩
      have k1 : (1 : Int32).toInt = 1 := by decide +kernel
      have k2 : (2 : Int32).toInt = 2 := by decide +kernel
      by_cases hij : i = j
      · subst hij
        simp only [if_true]
        repeat (first | exact OK2_c H2 | (split))
      · have hne : ¬ nI i = nI j := fun z => hij ((nI_eq (by omega) (by omega)).mp z)
        simp only [if_neg hne]
        by_cases ck2 : gI hm 1 i = gI hm 1 j
        · rw [if_pos ck2]
          by_cases kk : 1 ≤ gI hm 1 i ∧ gI hm 1 i ≤ 2
          · rw [if_pos kk]
            have kk' : gI hm 1 i = 2 ∨ gI hm 1 i = 1 := by
              have a1 := i32_le.mp kk.1
              have a2 := i32_le.mp kk.2
              rw [k1] at a1
              rw [k2] at a2
              rcases (by omega : (gI hm 1 i).toInt = 2 ∨ (gI hm 1 i).toInt = 1) with z | z
              · exact Or.inl (Int32.toInt_inj.mp (z.trans k2.symm))
              · exact Or.inr (Int32.toInt_inj.mp (z.trans k1.symm))
            rcases kk' with k3 | k3
            · rw [if_pos ((ik i 2 hi).mpr k3), if_pos ((ik j 2 hj).mpr (ck2.symm.trans k3))]
              exact body hij
            · rw [if_neg (fun z => absurd (k3.symm.trans ((ik i 2 hi).mp z)) (by decide)), if_pos ((ik i 1 hi).mpr k3), if_pos ((ik j 1 hj).mpr (ck2.symm.trans k3))]
              exact body hij
          · rw [if_neg kk]
            have n2 : ¬ isK hm (nI i) 2 := fun z => kk (by rw [(ik i 2 hi).mp z]; decide)
            have n1 : ¬ isK hm (nI i) 1 := fun z => kk (by rw [(ik i 1 hi).mp z]; decide)
            rw [if_neg n2, if_neg n1]
            exact OK2_c H2
        · rw [if_neg ck2]
          by_cases a2 : isK hm (nI i) 2
          · have b2 : ¬ isK hm (nI j) 2 := fun z => ck2 (((ik i 2 hi).mp a2).trans ((ik j 2 hj).mp z).symm)
            have a1 : ¬ isK hm (nI i) 1 := fun z => absurd (((ik i 2 hi).mp a2).symm.trans ((ik i 1 hi).mp z)) (by decide)
            rw [if_pos a2, if_neg b2, if_neg a1]
            exact OK2_c H2
          · rw [if_neg a2]
            by_cases a1 : isK hm (nI i) 1
            · have b1 : ¬ isK hm (nI j) 1 := fun z => ck2 (((ik i 1 hi).mp a1).trans ((ik j 1 hj).mp z).symm)
              rw [if_pos a1, if_neg b1]
              exact OK2_c H2
            · rw [if_neg a1]
              exact OK2_c H2
    · have nb : ∀ k : Int32, ¬ isK hm p2 k := fun k ⟨a, ha, e, _⟩ => cb ⟨a, ha, e⟩
      rw [if_pos (show ∃ a, a < nLd hm ∧ nI i = nI a from ⟨i, hi, rfl⟩), if_neg cb]
      simp only [if_neg (nb 2), if_neg (nb 1)]
      repeat (first | exact OK2_c H2 | (split))
  · have na : ∀ k : Int32, ¬ isK hm p1 k := fun k ⟨a, ha, e, _⟩ => ca ⟨a, ha, e⟩
    rw [if_neg ca]
    simp only [if_neg (na 2), if_neg (na 1)]
    exact OK2_c H2
end OPR
