section OPG
variable {hc hm : HS}
theorem op_eats (H : RR hc hm) (p1 p2 p3 p4 : Int32) : OK2 (fX11_eats p1 p2 p3 p4 hc) (fX12_eats p1 p2 p3 p4 hm) := by
  have H2 := RR_thrown 0 H
  have h15 := RR_15 H
  have d1 : ∀ x k : Int32, Decidable (isK hm x k) := fun _ _ => Classical.propDecidable _
  have d2 : ∀ x k : Int32, Decidable (isK (pI hm 0 22 0) x k) := fun _ _ => Classical.propDecidable _
  have eM : gI (pI hm 0 22 0) 0 0 = nI (nLd hm) := RR_eM H2
  have g : ∀ b i, ¬ b = 0 → gI (pI hm 0 22 0) b i = gI hm b i := fun b i hb => by rw [gI_pI, if_neg (fun q => hb q.1)]
  have dO : Decidable (p4 = -1 ∨ (¬ p4 = p1 ∧ (isK hm p4 1 ∨ isK hm p4 0))) := Classical.propDecidable _
  -- the class: its order of asking doesn't matter
  have C1 : fX11_eats p1 p2 p3 p4 hc = fX11_eats_43 p1 p2 p3 p4 (if p4 = -1 ∨ (¬ p4 = p1 ∧ (isK hm p4 1 ∨ isK hm p4 0)) then 1 else 0) hc := by
    unfold fX11_eats fX11_eats_38 fX11_eats_42
    by_cases z1 : p4 = -1
    · rw [if_pos z1, if_pos (Or.inl z1)]
    · rw [if_neg z1]
      by_cases z2 : p4 = p1
      · rw [if_pos z2, if_neg (fun q => q.elim z1 (fun y => y.1 z2))]
      · rw [if_neg z2, e_isA H p4 1 (d1 _ _), bd_s, if10s]
        by_cases z3 : isK hm p4 1
        · rw [if_pos z3, if_pos (Or.inr ⟨z2, Or.inl z3⟩)]
        · rw [if_neg z3, e_isA H p4 0 (d1 _ _), bd_s, if10s]
          by_cases z4 : isK hm p4 0
          · rw [if_pos z4, if_pos (Or.inr ⟨z2, Or.inr z4⟩)]
          · rw [if_neg z4, if_neg (fun q => q.elim z1 (fun y => y.2.elim z3 z4))]
  rw [C1]
  simp only [fX11_eats_43, fX12_eats, nm_e1, e_isA H p1 1 (d1 _ _), e_isOf H2 p1 1 (d2 _ _), f_between, f_in, bd_s, if10s]
  by_cases a1 : isK hm p1 1
  · rw [if_pos a1, if_pos ((isK_t 0 p1 1).mpr a1)]
    refine OK2_if (fun b1 => OK2_if (fun b2 => ?_) (fun _ => OK2_c H2)) (fun _ => OK2_c H2)
    obtain ⟨i, hi, rfl, hk⟩ := a1
    have n1 : ∀ j, j < nLd hm → ¬ nI j = (-1 : Int32) := fun j hj e => m1_ne (by omega) e.symm
    have r1 := rngI 0 50 b1
    have r2 := rngI 0 100 b2
    have fin : (p4 = -1 ∨ ∃ j, j < nLd hm ∧ p4 = nI j ∧ ¬ j = i) → OK2 (ck (inb (nI i) 15) (ck (inb (nI i) 15) (ck (inb (nI i) 15) (some (1, pI (pI (pI hc 63 (nI i).toNatClampNeg p2) 64 (nI i).toNatClampNeg p3) 65 (nI i).toNatClampNeg p4))))) (fX12_eats_68 (nI i) p2 p3 p4 (pI hm 0 22 0)) := by
      intro hw
      unfold fX12_eats_68
      simp only [inb_n (show i < 15 by omega) (by omega), ck_t, nm_e1, nI_clamp (show i < 2 ^ 31 by omega)]
      obtain ⟨s1, s2, s3⟩ := H.1.2.2.2.2.2.2.2.1
      obtain ⟨is1, is2, is3⟩ := H.2.1.2.2.2.1
      refine OK2_c (RR_upS (cg_pI rfl (cg_pI rfl (cg_pI rfl cg_rf))) (cg_pI rfl (cg_pI rfl (cg_pI rfl (cg_pI rfl cg_rf)))) ?_ ?_ H)
      · refine ⟨fun k => by simp [gI_pI, s1], fun k => by simp [gI_pI, s2], fun k hk2 => ?_⟩
        simp only [gI_pI]
        by_cases z : k = i
        · simp [z]
        · simp [z]; exact s3 k hk2
      · have eN : nLd (pI (pI (pI (pI hm 0 22 0) 30 i p2) 31 i p3) 32 i p4) = nLd hm := rfl
        refine ⟨fun k hk2 => ?_, fun k hk2 hk3 => ?_, fun k hk2 => ?_⟩
        · simp only [gI_pI]
          by_cases z : k = i
          · simp [z]; exact ⟨r1, r2⟩
          · simp [z]; exact is1 k hk2
        · rw [eN] at hk3
          simp only [gI_pI]
          have z : ¬ k = i := by omega
          simp [z]
          exact is2 k hk2 hk3
        · rw [eN] at hk2 ⊢
          simp only [gI_pI]
          by_cases z : k = i
          · subst z; simp; exact hw
          · simp [z]; exact is3 k hk2
    by_cases z1 : p4 = -1
    · rw [if_pos (Or.inl z1), if_pos z1]
      exact fin (Or.inl z1)
    · rw [if_neg z1]
      by_cases z2 : p4 = nI i
      · rw [if_neg (fun q => q.elim z1 (fun y => y.1 z2)), if_pos z2]
        exact OK2_c H2
      · rw [if_neg z2, f_isLoadM (by omega) eM, bd_s, if10s]
        by_cases z3 : ∃ j, j < nLd hm ∧ p4 = nI j
        · rw [if_pos z3]
          obtain ⟨j, hj, rfl⟩ := z3
          simp only [inb_n (show j < 15 by omega) (by omega), ck_t, nI_clamp (show j < 2 ^ 31 by omega)]
          rw [g 1 j (by decide)]
          obtain ⟨k1, -⟩ := H.2.1.1.2 j hj
          have t1 : (1 : Int32).toInt = 1 := by decide +kernel
          have iff : (nI j = -1 ∨ (¬ nI j = nI i ∧ (isK hm (nI j) 1 ∨ isK hm (nI j) 0))) ↔ gI hm 1 j ≤ 1 := by
            constructor
            · rintro (q | ⟨-, q | q⟩)
              · exact absurd q z1
              · obtain ⟨a, ha, e, hk9⟩ := q
                have := (nI_eq (by omega) (by omega)).mp e
                subst this
                rw [hk9]; decide
              · obtain ⟨a, ha, e, hk9⟩ := q
                have := (nI_eq (by omega) (by omega)).mp e
                subst this
                rw [hk9]; decide
            · intro q
              have q2 := i32_le.mp q
              rw [t1] at q2
              refine Or.inr ⟨z2, ?_⟩
              rcases (by omega : (gI hm 1 j).toInt = 1 ∨ (gI hm 1 j).toInt = 0) with y | y
              · exact Or.inl ⟨j, hj, rfl, Int32.toInt_inj.mp (y.trans t1.symm)⟩
              · exact Or.inr ⟨j, hj, rfl, Int32.toInt_inj.mp (y.trans i32_z.symm)⟩
          by_cases z4 : gI hm 1 j ≤ 1
          · rw [if_pos (iff.mpr z4), if_pos z4]
            exact fin (Or.inr ⟨j, hj, rfl, fun e => z2 (by rw [e])⟩)
          · rw [if_neg (fun q => z4 (iff.mp q)), if_neg z4]
            exact OK2_c H2
        · rw [if_neg z3, if_neg]
          · exact OK2_c H2
          · rintro (q | ⟨-, q | q⟩)
            · exact z1 q
            · obtain ⟨a, ha, e, -⟩ := q; exact z3 ⟨a, ha, e⟩
            · obtain ⟨a, ha, e, -⟩ := q; exact z3 ⟨a, ha, e⟩
  · rw [if_neg a1, if_neg (fun q => a1 ((isK_t 0 p1 1).mp q))]
    exact OK2_c H2
/-- a byte of an int -/
theorem byte_low (x : Int32) : (x &&& 255).toInt8 = x.toInt8 := by
  apply Int8.toBitVec_inj.1
  apply BitVec.eq_of_getLsbD_eq
  intro i hi
  have h2 : (255 : Int32).toBitVec.getLsbD i = true := by
    have : ∀ j : Fin 8, (255 : Int32).toBitVec.getLsbD j.val = true := by decide +kernel
    exact this ⟨i, hi⟩
  have h4 : (x &&& 255).toBitVec.getLsbD i = x.toBitVec.getLsbD i := by
    show (x.toBitVec &&& (255 : Int32).toBitVec).getLsbD i = _
    rw [BitVec.getLsbD_and, h2, Bool.and_true]
  have h3 : i < 32 := by omega
  show (((x &&& 255).toBitVec).signExtend 8).getLsbD i = (x.toBitVec.signExtend 8).getLsbD i
  rw [BitVec.getLsbD_signExtend, BitVec.getLsbD_signExtend, if_pos h3, if_pos h3, h4]
theorem byte_and (x : Int32) : x.toInt8.toInt32 &&& 255 = x &&& 255 := by
  rw [← byte_low, pk_and x 8 (by decide)]
  exact sc_k8 _ (Nat.mod_lt _ (by decide))
theorem byte_nar (x : Int32) : vp_nar .byte x.toInt8.toInt32 = x.toInt8.toInt32 := pk_vb x
theorem shift_and (v a b : Int32) (k : Nat) (hk : k = 0 ∨ k = 8 ∨ k = 16 ∨ k = 24) (ha : ((a.toUInt32 &&& Int32.toUInt32 31).toBitVec % 32).toNat = k) (hb : (b.toBitVec.smod 32).toNat = k) : iush v a &&& 255 = (v >>> b).toInt8.toInt32 &&& 255 := by
  rw [byte_and]
  have e1 : iush v a &&& 255 = nI ((iush v a).toBitVec.toNat % 2 ^ 8) := pk_and _ 8 (by decide)
  have e2 : (v >>> b) &&& 255 = nI ((v >>> b).toBitVec.toNat % 2 ^ 8) := pk_and _ 8 (by decide)
  rw [e1, e2]
  congr 1
  have f1 : (iush v a).toBitVec.toNat = v.toBitVec.toNat / 2 ^ k := pk_ushr v a k ha
  have f2 := pk_shr v b k hb
  have g1 : v.toInt = if v.toBitVec.toNat < 2147483648 then (v.toBitVec.toNat : Int) else (v.toBitVec.toNat : Int) - 4294967296 := by
    show v.toBitVec.toInt = _
    rw [BitVec.toInt_eq_toNat_cond]
    split <;> split <;> simp at * <;> omega
  have g2 : (v >>> b).toInt = if (v >>> b).toBitVec.toNat < 2147483648 then ((v >>> b).toBitVec.toNat : Int) else ((v >>> b).toBitVec.toNat : Int) - 4294967296 := by
    show (v >>> b).toBitVec.toInt = _
    rw [BitVec.toInt_eq_toNat_cond]
    split <;> split <;> simp at * <;> omega
  have l1 := v.toBitVec.isLt
  have l2 := (v >>> b).toBitVec.isLt
  rw [f1]
  generalize v.toBitVec.toNat = x at *
  generalize (v >>> b).toBitVec.toNat = y at *
  generalize v.toInt = vi at *
  generalize (v >>> b).toInt = wi at *
  rcases hk with rfl | rfl | rfl | rfl <;> simp only [Int.shiftRight_eq_div_pow] at f2 <;> (split at g1 <;> split at g2 <;> omega)
/-- one sign more, on both sides -/
theorem sign_step (H : RR hc hm) {t : Nat} (et : gI hm 0 19 = nI t) (ht : t < 80) (a b : Int32) (hab : a = b.toInt8.toInt32 &&& 255) (hb8 : b.toInt8.toInt32 = b) : RR (pI (pI hc 16 t a) 0 5 (nI (t + 1))) (pI (pI hm 0 19 (nI (t + 1))) 9 t b) := by
  obtain ⟨t1, t2, ⟨t', ht', et'⟩, t4⟩ := H.1.2.2.1
  refine RR_upT (cg_pI rfl (cg_pI rfl cg_rf)) (cg_pI rfl (cg_pI rfl cg_rf)) ?_ H
  refine ⟨by simp [gI_pI], fun k => ?_, ⟨t + 1, by omega, by simp [gI_pI]⟩, fun k => ?_⟩
  · simp only [gI_pI]
    by_cases z : k = t
    · simp [z, hab, hb8]
    · simp [z, t2]
  · simp only [gI_pI]
    by_cases z : k = t
    · simp [z, hb8]
    · simp [z, t4]
theorem op_sign (H : RR hc hm) (p1 : Int32) : OK2 (fX11_sign p1 hc) (fX12_sign p1 hm) := by
  have H2 := RR_thrown 0 H
  obtain ⟨t1, t2, ⟨t, ht, et⟩, t4⟩ := H2.1.2.2.1
  simp only [fX11_sign, fX12_sign, nm_e1, t1]
  refine OK2_if (fun c1 => ?_) (fun _ => OK2_c H2)
  have ht4 : t + 4 ≤ 80 := by
    rw [et, i32_le] at c1
    have e4 : (4 : Int32).toInt = 4 := by decide +kernel
    have e80 : (80 : Int32).toInt = 80 := by decide +kernel
    rw [fb_addI9 (by rw [nI_toInt (by omega), e4]; omega) (by rw [nI_toInt (by omega), e4]; omega), nI_toInt (by omega), e4, e80] at c1
    omega
  have b8 : ∀ x : Int32, (vp_nar .byte x.toInt8.toInt32).toInt8.toInt32 = vp_nar .byte x.toInt8.toInt32 := fun x => by
    rw [byte_nar]
    exact congrArg Int8.toInt32 (Int8.toInt8_toInt32 x.toInt8)
  -- one turn of both loops
  have turn : ∀ (hc hm : HS) (t : Nat), RR hc hm → gI hm 0 19 = nI t → t < 80 → ∀ (n : Nat) (s k : Int32) (sh : Nat), ¬ s < 0 → ¬ k < 0 → (sh = 0 ∨ sh = 8 ∨ sh = 16 ∨ sh = 24) → ((s.toUInt32 &&& Int32.toUInt32 31).toBitVec % 32).toNat = sh → (((8 * k) &&& 31 : Int32).toBitVec.smod 32).toNat = sh → ∃ hc' hm', RR hc' hm' ∧ gI hm' 0 19 = nI (t + 1) ∧ fX11_sign_16 (n + 1) p1 s hc = fX11_sign_16 n p1 (s + -8) hc' ∧ fX12_sign_20 (n + 1) p1 k hm = fX12_sign_20 n p1 (k + -1) hm' := by
    intro hc hm t H et ht n s k sh hs hk hsh h1 h2
    have ec : gI hc 0 5 = nI t := H.1.2.2.1.1.trans et
    refine ⟨_, _, sign_step H et ht (iush p1 s &&& 255) (vp_nar .byte (p1 >>> ((8 * k) &&& 31)).toInt8.toInt32) ?_ (b8 _), by simp [gI_pI], ?_, ?_⟩
    · rw [b8, byte_nar]
      exact shift_and p1 s ((8 * k) &&& 31) sh hsh h1 h2
    · rw [fX11_sign_16, if_neg hs, ec, inb_n ht (by omega), ck_t, nm_e1, nm_e1, nm_e1, nI_clamp (by omega)]
      rw [show gI (pI hc 16 t (iush p1 s &&& 255)) 0 5 = nI t by rw [gI_pI, if_neg (by omega)]; exact ec, nI_1]
    · rw [fX12_sign_20, if_neg hk, et, inb_n ht (by omega), nm_e1, ck_t, nm_e1, nm_e1, nI_clamp (by omega), nI_1]
  obtain ⟨n, hn⟩ : ∃ n, FU = n + 5 := ⟨39995, FU_eq⟩
  rw [hn]
  obtain ⟨c1, m1, R1, q1, a1, b1⟩ := turn hc (pI hm 0 22 0) t H2 et (by omega) (n + 4) 24 3 24 (by decide) (by decide) (by decide) (by decide +kernel) (by decide +kernel)
  obtain ⟨c2, m2, R2, q2, a2, b2⟩ := turn c1 m1 (t + 1) R1 q1 (by omega) (n + 3) 16 2 16 (by decide) (by decide) (by decide) (by decide +kernel) (by decide +kernel)
  obtain ⟨c3, m3, R3, q3, a3, b3⟩ := turn c2 m2 (t + 1 + 1) R2 q2 (by omega) (n + 2) 8 1 8 (by decide) (by decide) (by decide) (by decide +kernel) (by decide +kernel)
  obtain ⟨c4, m4, R4, q4, a4, b4⟩ := turn c3 m3 (t + 1 + 1 + 1) R3 q3 (by omega) (n + 1) 0 0 0 (by decide) (by decide) (by decide) (by decide +kernel) (by decide +kernel)
  rw [a1, b1, show (24 : Int32) + -8 = 16 by decide, show (3 : Int32) + -1 = 2 by decide, a2, b2, show (16 : Int32) + -8 = 8 by decide, show (2 : Int32) + -1 = 1 by decide, a3, b3, show (8 : Int32) + -8 = 0 by decide, show (1 : Int32) + -1 = 0 by decide, a4, b4, fX11_sign_16, fX12_sign_20, if_pos (by decide), if_pos (by decide), R4.1.2.2.1.1]
  exact OK2_c R4
end OPG
