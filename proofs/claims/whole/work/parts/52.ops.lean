section OPK
variable {hc hm : HS}
theorem cl0 : (0 : Int32).toNatClampNeg = 0 := by decide
theorem cl15 : (15 : Int32).toNatClampNeg = 15 := by decide
theorem l15 {i l : Nat} (hi : i < 3) (hl : l < 15) : (15 : Int32) * nI i + nI l = nI (15 * i + l) := by
  rw [show (15 : Int32) = nI 15 by decide, pk_mul, nI_add]
theorem l_keep {i : Nat} (hi : i < 3) : ∀ (k l : Nat) (h : HS), l + k = 15 → ∀ n, k < n → ∃ h', fX12_keep_65 n (nI i) (nI l) h = some (1, h') ∧ (∀ b j, ¬ b = 35 → gI h' b j = gI h b j) ∧ ∀ j, gI h' 35 j = if 15 * i + l ≤ j ∧ j < 15 * i + 15 then gI h 5 (j - 15 * i) else gI h 35 j := by
  intro k
  induction k with
  | zero =>
    intro l h hl n hn
    obtain ⟨m, rfl⟩ := fuel1 hn
    refine ⟨h, ?_, fun _ _ _ => rfl, fun j => by rw [if_neg (by omega)]⟩
    rw [fX12_keep_65, if_pos]
    rw [show (15 : Int32) = nI 15 by decide]
    exact nI_le (by omega) (by omega)
  | succ k ih =>
    intro l h hl n hn
    obtain ⟨m, rfl⟩ := fuel1 hn
    obtain ⟨h', a1, a2, a3⟩ := ih (l + 1) (pI h 35 (15 * i + l) (gI h 5 l)) (by omega) m (by omega)
    refine ⟨h', ?_, fun b j hb => ?_, fun j => ?_⟩
    · rw [fX12_keep_65, if_neg, l15 hi (by omega), inb_n (show l < 15 by omega) (by omega), inb_n (show 15 * i + l < 45 by omega) (by omega), ck_t, ck_t, nm_e1, nm_e1, nI_clamp (by omega), nI_clamp (by omega), nI_1]
      · exact a1
      · rw [show (15 : Int32) = nI 15 by decide]
        exact nI_ge (by omega) (by omega)
    · rw [a2 b j hb, gI_pI, if_neg (fun z => hb z.1)]
    · rw [a3 j]
      by_cases z : j = 15 * i + l
      · subst z
        rw [if_neg (by omega), if_pos (by omega), gI_pI, if_pos ⟨rfl, rfl⟩]
        congr 1
        omega
      · by_cases y : 15 * i + (l + 1) ≤ j ∧ j < 15 * i + 15
        · rw [if_pos y, if_pos (by omega), gI_pI, if_neg (by omega)]
        · rw [if_neg y, if_neg (by omega), gI_pI, if_neg (fun q => z q.2)]
theorem cpok15 : cpok 0 0 15 15 15 = true := by decide
theorem rowKe_pl (h : HS) {i : Nat} (hi : i < 3) : rowKe h i = gI h (19 + i) := by
  unfold rowKe
  have : i = 0 ∨ i = 1 ∨ i = 2 := by omega
  rcases this with rfl | rfl | rfl <;> rfl
theorem op_keep (H : RR hc hm) (p1 : Int32) : OK2 (fX11_keep p1 hc) (fX12_keep p1 hm) := by
  have H2 := RR_thrown 0 H
  have h15 := RR_15 H
  simp only [fX11_keep, fX12_keep, nm_e1, f_between, f_in, bd_s, if10s]
  refine OK2_if (fun c1 => ?_) (fun _ => OK2_c H2)
  obtain ⟨i, hi, rfl⟩ : ∃ i, i < 3 ∧ p1 = nI i := by
    have r := rngI 0 2 c1
    exact ⟨p1.toInt.toNat, by omega, i32_eqI (by omega)⟩
  unfold fX0_keepUnder
  simp only [inb_n hi (by omega), ck_t, nm_e1, nI_clamp (show i < 2 ^ 31 by omega), cpok15, cl0, cl15, nz1, bv_s]
  generalize hcp : cpI hc 30 (19 + i) 0 0 15 = c0
  have cp : ∀ b j, gI c0 b j = if b = 19 + i then (if j < 15 then gI hc 30 j else gI hc b j) else gI hc b j := by
    intro b j
    rw [← hcp, gI_cpI]
    by_cases z : b = 19 + i
    · subst z
      rw [if_pos rfl, if_pos rfl]
      unfold va_cpy
      by_cases y : j < 15
      · rw [if_pos (by omega), if_pos y]
        rw [Nat.zero_add, Nat.sub_zero]
        rfl
      · rw [if_neg (by omega), if_neg y]
        rfl
    · rw [if_neg z, if_neg z]
  have cq : ∀ b j, ¬ b = 19 + i → gI c0 b j = gI hc b j := fun b j hb => by rw [cp, if_neg hb]
  have M0 : ∀ b j, gI (pI (pI (pI (pI (pI (pI hm 0 22 0) 33 i 1) 34 i (gI (pI (pI hm 0 22 0) 33 i 1) 0 0)) 36 i (gI (pI (pI (pI hm 0 22 0) 33 i 1) 34 i (gI (pI (pI hm 0 22 0) 33 i 1) 0 0)) 0 15)) 37 i (gI (pI (pI (pI (pI hm 0 22 0) 33 i 1) 34 i (gI (pI (pI hm 0 22 0) 33 i 1) 0 0)) 36 i (gI (pI (pI (pI hm 0 22 0) 33 i 1) 34 i (gI (pI (pI hm 0 22 0) 33 i 1) 0 0)) 0 15)) 0 16)) 38 i (gI (pI (pI (pI (pI (pI hm 0 22 0) 33 i 1) 34 i (gI (pI (pI hm 0 22 0) 33 i 1) 0 0)) 36 i (gI (pI (pI (pI hm 0 22 0) 33 i 1) 34 i (gI (pI (pI hm 0 22 0) 33 i 1) 0 0)) 0 15)) 37 i (gI (pI (pI (pI (pI hm 0 22 0) 33 i 1) 34 i (gI (pI (pI hm 0 22 0) 33 i 1) 0 0)) 36 i (gI (pI (pI (pI hm 0 22 0) 33 i 1) 34 i (gI (pI (pI hm 0 22 0) 33 i 1) 0 0)) 0 15)) 0 16)) 0 17)) b j = if b = 38 ∧ j = i then gI hm 0 17 else if b = 37 ∧ j = i then gI hm 0 16 else if b = 36 ∧ j = i then gI hm 0 15 else if b = 34 ∧ j = i then gI hm 0 0 else if b = 33 ∧ j = i then 1 else if b = 0 ∧ j = 22 then 0 else gI hm b j := by
    intro b j
    simp [gI_pI]
  generalize pI (pI (pI (pI (pI (pI hm 0 22 0) 33 i 1) 34 i (gI (pI (pI hm 0 22 0) 33 i 1) 0 0)) 36 i (gI (pI (pI (pI hm 0 22 0) 33 i 1) 34 i (gI (pI (pI hm 0 22 0) 33 i 1) 0 0)) 0 15)) 37 i (gI (pI (pI (pI (pI hm 0 22 0) 33 i 1) 34 i (gI (pI (pI hm 0 22 0) 33 i 1) 0 0)) 36 i (gI (pI (pI (pI hm 0 22 0) 33 i 1) 34 i (gI (pI (pI hm 0 22 0) 33 i 1) 0 0)) 0 15)) 0 16)) 38 i (gI (pI (pI (pI (pI (pI hm 0 22 0) 33 i 1) 34 i (gI (pI (pI hm 0 22 0) 33 i 1) 0 0)) 36 i (gI (pI (pI (pI hm 0 22 0) 33 i 1) 34 i (gI (pI (pI hm 0 22 0) 33 i 1) 0 0)) 0 15)) 37 i (gI (pI (pI (pI (pI hm 0 22 0) 33 i 1) 34 i (gI (pI (pI hm 0 22 0) 33 i 1) 0 0)) 36 i (gI (pI (pI (pI hm 0 22 0) 33 i 1) 34 i (gI (pI (pI hm 0 22 0) 33 i 1) 0 0)) 0 15)) 0 16)) 0 17) = hm0 at M0 ⊢
  obtain ⟨hmk, k1, k2, k3⟩ := l_keep hi 15 0 hm0 (by omega) FU (FU_gt (by omega))
  rw [nI_0] at k1
  rw [k1]
  -- the model behind it, number by number
  have M : ∀ b j, gI hmk b j = if b = 35 then (if 15 * i ≤ j ∧ j < 15 * i + 15 then gI hm 5 (j - 15 * i) else gI hm 35 j) else if b = 38 ∧ j = i then gI hm 0 17 else if b = 37 ∧ j = i then gI hm 0 16 else if b = 36 ∧ j = i then gI hm 0 15 else if b = 34 ∧ j = i then gI hm 0 0 else if b = 33 ∧ j = i then 1 else if b = 0 ∧ j = 22 then 0 else gI hm b j := by
    intro b j
    by_cases z : b = 35
    · subst z
      rw [k3, if_pos rfl, M0, M0]
      simp
    · rw [k2 b j z, if_neg z, M0]
  have C : ∀ b j, gI (pI (pI (pI (pI c0 22 i (gI c0 2 8)) 23 i (gI (pI c0 22 i (gI c0 2 8)) 1 6)) 24 i (gI (pI (pI c0 22 i (gI c0 2 8)) 23 i (gI (pI c0 22 i (gI c0 2 8)) 1 6)) 1 7)) 25 i (gI (pI (pI (pI c0 22 i (gI c0 2 8)) 23 i (gI (pI c0 22 i (gI c0 2 8)) 1 6)) 24 i (gI (pI (pI c0 22 i (gI c0 2 8)) 23 i (gI (pI c0 22 i (gI c0 2 8)) 1 6)) 1 7)) 1 8)) b j = if b = 25 ∧ j = i then gI hc 1 8 else if b = 24 ∧ j = i then gI hc 1 7 else if b = 23 ∧ j = i then gI hc 1 6 else if b = 22 ∧ j = i then gI hc 2 8 else gI c0 b j := by
    intro b j
    simp [gI_pI, cq 1 _ (show ¬ 1 = 19 + i by omega), cq 2 _ (show ¬ 2 = 19 + i by omega)]
  generalize pI (pI (pI (pI c0 22 i (gI c0 2 8)) 23 i (gI (pI c0 22 i (gI c0 2 8)) 1 6)) 24 i (gI (pI (pI c0 22 i (gI c0 2 8)) 23 i (gI (pI c0 22 i (gI c0 2 8)) 1 6)) 1 7)) 25 i (gI (pI (pI (pI c0 22 i (gI c0 2 8)) 23 i (gI (pI c0 22 i (gI c0 2 8)) 1 6)) 24 i (gI (pI (pI c0 22 i (gI c0 2 8)) 23 i (gI (pI c0 22 i (gI c0 2 8)) 1 6)) 1 7)) 1 8) = hck at C
  refine OK2_c (RR_upE (hc := hc) (hm := hm) (fun b j q => ?_) (fun b j q => ?_) ?_ ?_ H)
  · rw [C]
    have n1 : ¬ b = 25 := by rintro rfl; cases q
    have n2 : ¬ b = 24 := by rintro rfl; cases q
    have n3 : ¬ b = 23 := by rintro rfl; cases q
    have n4 : ¬ b = 22 := by rintro rfl; cases q
    have n5 : ¬ b = 19 + i := by
      rintro rfl
      have : i = 0 ∨ i = 1 ∨ i = 2 := by omega
      rcases this with rfl | rfl | rfl <;> cases q
    rw [if_neg (fun z => n1 z.1), if_neg (fun z => n2 z.1), if_neg (fun z => n3 z.1), if_neg (fun z => n4 z.1), cq b j n5]
  · rw [M]
    have n1 : ¬ b = 35 := by rintro rfl; cases q
    have n2 : ¬ b = 38 := by rintro rfl; cases q
    have n3 : ¬ b = 37 := by rintro rfl; cases q
    have n4 : ¬ b = 36 := by rintro rfl; cases q
    have n5 : ¬ b = 34 := by rintro rfl; cases q
    have n6 : ¬ b = 33 := by rintro rfl; cases q
    have n7 : ¬ (b = 0 ∧ j = 22) := by rintro ⟨rfl, rfl⟩; cases q
    rw [if_neg n1, if_neg (fun z => n2 z.1), if_neg (fun z => n3 z.1), if_neg (fun z => n4 z.1), if_neg (fun z => n5 z.1), if_neg (fun z => n6 z.1), if_neg n7]
  · obtain ⟨E1, E2, E3, E4⟩ := H.1.2.2.2.2.2.2.2.2.1
    have hb := H.1.2.1
    simp only [RB] at hb
    obtain ⟨-, -, -, -, -, -, -, -, -, b10, b11, b12⟩ := hb
    refine ⟨fun a ha => ?_, fun k => ?_, fun k => ?_, fun k => ?_⟩
    · obtain ⟨u1, u2, u3, u4⟩ := E1 a ha
      rw [rowKe_pl _ ha] at u4 ⊢
      by_cases z : a = i
      · subst z
        have m33 : gI hmk 33 a = 1 := by rw [M]; simp
        have m34 : gI hmk 34 a = gI hm 0 0 := by rw [M]; simp
        refine ⟨Or.inr m33, fun y => ?_, fun _ => ?_, fun k hk => ?_⟩
        · rw [m33] at y; exact absurd y (by decide)
        · rw [m34, C]
          simp
          exact H.1.1.1
        · rw [C, M, if_neg (by omega), if_neg (by omega), if_neg (by omega), if_neg (by omega), cp, if_pos rfl, if_pos hk, if_pos rfl, if_pos (by omega), H.1.1.2.2.2.2.2 k]
          congr 1
          omega
      · have m33 : gI hmk 33 a = gI hm 33 a := by rw [M]; simp [z]
        have m34 : gI hmk 34 a = gI hm 34 a := by rw [M]; simp [z]
        have c22 : gI hck 22 a = gI hc 22 a := by rw [C]; simp [z, cq 22 a (show ¬ 22 = 19 + i by omega)]
        rw [m33, m34, c22]
        refine ⟨u1, u2, u3, fun k hk => ?_⟩
        rw [C, M, if_neg (by omega), if_neg (by omega), if_neg (by omega), if_neg (by omega), cq _ _ (by omega), if_pos rfl, if_neg (by omega)]
        exact u4 k hk
    · rw [C, M]
      by_cases z : k = i
      · simp [z, b10]
      · simp [z, E2, cq 23 k (show ¬ 23 = 19 + i by omega)]
    · rw [C, M]
      by_cases z : k = i
      · simp [z, b11]
      · simp [z, E3, cq 24 k (show ¬ 24 = 19 + i by omega)]
    · rw [C, M]
      by_cases z : k = i
      · simp [z, b12]
      · simp [z, E4, cq 25 k (show ¬ 25 = 19 + i by omega)]
  · have eN : nLd hmk = nLd hm := by show (gI hmk 0 0).toNatClampNeg = (gI hm 0 0).toNatClampNeg; rw [M]; simp
    intro a ha hne
    by_cases z : a = i
    · subst z
      have hi2 := H.2.1.2.1
      simp only [IB] at hi2
      refine ⟨by rw [M]; simp [hi2], nLd hm, by rw [eN]; omega, ?_, fun k hk => ?_⟩
      · rw [M]; simp; exact RR_eM H
      · have e1 : gI hmk 35 (15 * a + k) = gI hm 5 k := by
          rw [M, if_pos rfl, if_pos (by omega)]
          congr 1
          omega
        have e2 : gI hmk 4 k = gI hm 4 k := by rw [M]; simp
        rw [e1, e2]
        obtain ⟨-, -, -, x1, x2, x3⟩ := H.2.1.1.2 k hk
        exact ⟨x1, x2⟩
    · have m33 : gI hmk 33 a = gI hm 33 a := by rw [M]; simp [z]
      rw [m33] at hne
      obtain ⟨y1, m, y2, y3, y4⟩ := H.2.1.2.2.2.2 a ha hne
      refine ⟨by rw [M]; simp [z, y1], m, by rw [eN]; exact y2, by rw [M]; simp [z, y3], fun k hk => ?_⟩
      have e1 : gI hmk 35 (15 * a + k) = gI hm 35 (15 * a + k) := by rw [M, if_pos rfl, if_neg (by omega)]
      have e2 : gI hmk 4 k = gI hm 4 k := by rw [M]; simp
      rw [e1, e2]
      exact y4 k hk
end OPK
