section HOL
variable {hc hm : HS}
theorem vals24 {h : HS} (H : RR hc (pI h 0 24 0)) (d : Int32) : fX0_heavyAt d hc = some (Hm h d, hc) ∧ fX12_heavyAt d h = some (Hm h d, h) ∧ fX0_momentNow hc = some (Mm h, hc) ∧ fX12_momentOf 0 h = some (Mm h, h) ∧ fX0_listNow hc = some (Tm h, hc) ∧ fX12_momentOf 1 h = some (Tm h, h) ∧ (Bc hc d ↔ Bm h d) ∧ VN h ∧ VY h := by
  have I := il24 H.2.1.1
  have J := ib24 H.2.1.2.1
  have x : exP h (pI h 0 24 0) := fun b j _ z => g24 z
  obtain ⟨x1, -, -, x2, x3, x4, -, -⟩ := exP_M x
  have xB : Bm (pI h 0 24 0) d ↔ Bm h d := by
    unfold Bm
    rw [x2, x3, x4, gI_pIr (by decide)]
  refine ⟨?_, e_heavyM I.1 J.2.2.2.2.2.1 d, ?_, e_momM0 I.1, ?_, e_momM1 I.1 (by decide), (RR_Bc H d).trans xB, I.1, J.2.2.2.2.2.1⟩
  · rw [e_heavyC (RR_VNc H) (RR_VYc H), RR_Hc H, x2]
  · rw [e_momC (RR_VNc H), RR_Mc H, x3]
  · rw [e_listC (RR_VNc H), RR_Tc H, x4]
theorem radd {h : HS} {t : Nat} (H : RR hc (pI h 0 24 0)) (et : gI h 0 21 = nI t) (ht : t < 20) (v : Int32) : ∃ hc' h', fX6_add v hc = some hc' ∧ fX12_tell v h = some h' ∧ RR hc' (pI h' 0 24 0) ∧ gI h' 0 21 = nI (t + 1) ∧ (∀ b j, ¬ b = 4 → ¬ b = 35 → gI hc' b j = gI hc b j) ∧ (∀ b j, ¬ b = 10 → ¬ (b = 0 ∧ j = 21) → gI h' b j = gI h b j) := by
  obtain ⟨r1, -, r3, -⟩ := row1 H (t := t) (by rw [g24 (by decide)]; exact et) ht v
  refine ⟨_, _, r1, e_tellM et (by omega) v, ?_, by rw [gI_pI, if_pos ⟨rfl, rfl⟩], fun b j z1 z2 => by rw [gI_pI, if_neg (fun y => z1 y.1), gI_pI, if_neg (fun y => z2 y.1)], fun b j z1 z2 => by rw [gI_pI, if_neg z2, gI_pI, if_neg (fun y => z1 y.1)]⟩
  rw [p24 (by omega), p24 (by omega)]
  exact r3
theorem dom_both {h : HS} (H : RR hc (pI h 0 24 0)) (BK : BKo h) : ∃ r hcE hE, fX1_doMorning hc = some (r, hcE) ∧ fX12_doMorning 0 h = some (r, hE) ∧ RR hcE (pI hE 0 24 0) ∧ exD1 hc hcE ∧ exD2 h hE ∧ (∀ j, ¬ j < 15 → gI hE 5 j = gI h 5 j) ∧ BKo hE := by
  unfold fX1_doMorning fX12_doMorning
  simp only [nm_e1]
  obtain ⟨k1, -, -, q, s, hq, -, e1, -, -, -⟩ := H.1.2.2.2.2.1
  have BKM : BKo (pI h 0 24 0) := BKo_cg (by rw [gI_pI, if_neg (by decide)]) (by rw [gI_pI, if_neg (by decide)]) (gI_pIr (by decide)) (gI_pIr (by decide)) BK
  have Hx : RR (pI (pI hc 5 9 0) 5 10 0) (pI h 0 24 0) := RR_39 (fun b j _ z2 => by rw [gI_pI, if_neg (fun y => z2 ⟨y.1, by omega⟩), gI_pI, if_neg (fun y => z2 ⟨y.1, by omega⟩)]) H
  obtain ⟨h1, eh⟩ : ∃ y, y = pI (pI h 0 37 0) 0 38 0 := ⟨_, rfl⟩
  have gh : ∀ b j, gI h1 b j = if b = 0 ∧ j = 38 then 0 else if b = 0 ∧ j = 37 then 0 else gI h b j := fun b j => by rw [eh, gI_pI, gI_pI]
  have x : exV h1 (pI h 0 24 0) := fun b j z1 z2 z3 => by rw [gh, if_neg (by omega), if_neg (by omega), g24 (by omega)]
  obtain ⟨r, hcE, hE, ME, d1, d2, d3, d4, -, -, d7, d8, d9, d10, -, d12, -⟩ := dom_loop (q := q) 0 hq q 0 _ h1 (pI h 0 24 0) 0 (by omega) Hx x BKM e1 (fun z => absurd rfl z) (by rw [gI_pI, if_neg (by decide), gI_pI, if_pos ⟨rfl, rfl⟩, gh, if_neg (by decide), if_pos ⟨rfl, rfl⟩]) (by rw [gI_pI, if_pos ⟨rfl, rfl⟩, gh, if_pos ⟨rfl, rfl⟩]) FU FU (FU_gt (by omega)) (FU_gt (by omega))
  rw [nI_0] at d1 d2
  obtain ⟨f1, f2⟩ := d12 rfl
  have D8 : exD2 h hE := fun b j z1 z2 z3 => by rw [d8 b j z1 z2 z3, gh, if_neg (by omega), if_neg (by omega)]
  refine ⟨r, hcE, hE, d1, by rw [← eh]; exact d2, RR_cg (hm := ME) cg_rf (fun b j q => ?_) d3, fun b j z1 z2 z3 z4 => by rw [d7 b j z1 z2 z3 z4, gI_pI, if_neg (fun y => z4 ⟨y.1, by omega⟩), gI_pI, if_neg (fun y => z4 ⟨y.1, by omega⟩)], D8, fun j hj => by rw [d10 j hj, gh, if_neg (by omega), if_neg (by omega)], BKo_cg (D8 0 31 (by decide) (by decide) (by decide)) (D8 0 32 (by decide) (by decide) (by decide)) (funext fun j => D8 13 j (by decide) (by decide) (by omega)) (funext fun j => D8 12 j (by decide) (by decide) (by omega)) BK⟩
  by_cases z : b = 0 ∧ j = 24
  · rw [gI_pI, if_pos z, z.1, z.2, d3.2.2]
  · rw [g24 z]
    by_cases w1 : b = 10
    · subst w1
      rw [f2 j, gh, if_neg (by omega), if_neg (by omega), d9 10 j (by decide), g24 (by omega)]
    · by_cases w2 : b = 0 ∧ j = 21
      · rw [w2.1, w2.2, f1, gh, if_neg (by decide), if_neg (by decide), d9 0 21 (by decide), g24 (by decide)]
      · refine (d4 b j w1 (by rintro rfl; cases q) ?_).symm
        rintro ⟨rfl, y⟩
        simp only [kmA, Bool.or_eq_true, beq_iff_eq] at q
        omega
def FRc (h h' : HS) : Prop := ∀ b j, ¬ b = 30 → ¬ b = 39 → ¬ b = 14 → ¬ (b = 5 ∧ 9 ≤ j) → ¬ (b = 1 ∧ j = 7) → ¬ b = 4 → ¬ b = 35 → gI h' b j = gI h b j
def FRm (h h' : HS) : Prop := ∀ b j, ¬ b = 5 → ¬ b = 10 → ¬ (b = 0 ∧ (j = 16 ∨ j = 21 ∨ (26 ≤ j ∧ j ≤ 30) ∨ j = 37 ∨ j = 38)) → gI h' b j = gI h b j
theorem RW24 {h : HS} (W : RW hc (pI h 0 24 0)) : RW hc h := by
  obtain ⟨w1, t, ht, w2, w3⟩ := W
  rw [g24 (by decide)] at w1 w2
  exact ⟨w1, t, ht, w2, fun k hk => by rw [w3 k hk, g24 (by omega)]⟩
theorem hol_loop {d v2 : Int32} : ∀ (k i : Nat) (hc h : HS), i + k = 401 → RR hc (pI h 0 24 0) → BKo h → ∀ n m, k + 1 < n → k + 1 < m → ∃ r hcE hE, fX11_holds_30 n d v2 (-2) (nI i) hc = fX11_holds_133 v2 r hcE ∧ fX12_holds_29 m d v2 (-2) (nI i) h = fX12_holds_100 v2 r hE ∧ RW hcE hE ∧ FRc hc hcE ∧ FRm h hE ∧ (∀ j, ¬ j < 15 → gI hcE 30 j = gI hc 30 j ∧ gI hE 5 j = gI h 5 j) := by
  intro k
  have e4 : (400 : Int32) = nI 400 := by decide +kernel
  induction k with
  | zero =>
    intro i hc h hi H BK n m hn hm1
    obtain ⟨n', rfl⟩ := fuel1 hn
    obtain ⟨m', rfl⟩ := fuel1 hm1
    refine ⟨-2, hc, h, ?_, ?_, RW24 H.1.2.2.2.1, fun _ _ _ _ _ _ _ _ _ => rfl, fun _ _ _ _ _ => rfl, fun _ _ => ⟨rfl, rfl⟩⟩
    · rw [fX11_holds_30, e4, if_pos (nI_lt (by omega) (by omega))]
    · rw [fX12_holds_29, e4, if_pos (nI_lt (by omega) (by omega))]
  | succ k ih =>
    intro i hc h hi H BK n m hn hm1
    obtain ⟨n', rfl⟩ := fuel1 hn
    obtain ⟨m', rfl⟩ := fuel1 hm1
    obtain ⟨n2, rfl⟩ := fuel1 (show k < n' by omega)
    obtain ⟨m2, rfl⟩ := fuel1 (show k < m' by omega)
    obtain ⟨r0, hc1, h1, a1, a2, H1, a4, a5, a6, BK1⟩ := dom_both H BK
    obtain ⟨-, -, -, -, -, -, bq, VN1, VY1⟩ := vals24 H1 d
    have e5o : ∀ j, gI hc 30 j = gI h 5 j := fun j => by rw [H.1.1.2.2.2.2.2 j, g24 (by omega)]
    have n2n : ¬ (0 : Int32) ≤ -2 := by decide
    have dC : Decidable (Bc hc1 d) := by unfold Bc; infer_instance
    have dM : Decidable (Bm h1 d) := by unfold Bm; infer_instance
    rw [fX11_holds_30, e4, if_neg (nI_nlt (by omega) (by omega)), if_pos rfl, a1, bd_s, e_balC (RR_VNc H1) (RR_VYc H1) d dC, bd_s, if10s, fX12_holds_29, e4, if_neg (nI_nlt (by omega) (by omega)), if_neg n2n, a2, bd_s, e_balM VN1 VY1 d dM, bd_s, if10s]
    by_cases c : Bm h1 d
    · rw [if_pos c, if_pos (bq.mpr c)]
      obtain ⟨r, hc2, h2, b1, b2, H2, -, -, -, b7, b8⟩ := day3 H1
      unfold fX12_holds_90
      rw [b1, bd_s, b2, bv_s, nm_e1, nm_e1, nI_1]
      have hi2 := goBy_hi FU 0 h1 h2 b2
      have BK2 : BKo h2 := BKo_cg (b7 0 31 (by decide) (by decide)) (b7 0 32 (by decide) (by decide)) (funext fun j => b7 13 j (by decide) (by omega)) (funext fun j => b7 12 j (by decide) (by omega)) BK1
      obtain ⟨r', hcE, hE, d1, d2, d3, d4, d5, d6⟩ := ih (i + 1) hc2 h2 (by omega) H2 BK2 (n2 + 1) (m2 + 1) (by omega) (by omega)
      refine ⟨r', hcE, hE, d1, d2, d3, fun b j z1 z2 z3 z4 z5 z6 z7 => ?_, fun b j z1 z2 z3 => ?_, fun j hj => ⟨?_, ?_⟩⟩
      · rw [d4 b j z1 z2 z3 z4 z5 z6 z7, b8 b j z1 z5, a4 b j z1 z2 z3 z4]
      · rw [d5 b j z1 z2 z3, b7 b j z1 (by omega), a5 b j z1 z2 (by omega)]
      · rw [(d6 j hj).1, H2.1.1.2.2.2.2.2 j, g24 (by omega), hi2 j hj, a6 j hj, e5o]
      · rw [(d6 j hj).2, hi2 j hj, a6 j hj]
    · rw [if_neg c, if_neg (fun z => c (bq.mp z))]
      obtain ⟨r1, r2, -⟩ := row0 H1
      have R0 : RR (pI hc1 4 1 0) (pI (pI h1 0 21 0) 0 24 0) := by rw [p24 (by decide)]; exact r2
      obtain ⟨u1, u2, -⟩ := vals24 R0 d
      obtain ⟨cA, mA, A1, A2, A3, A4, A5, A6⟩ := radd (t := 0) R0 (by rw [gI_pI, if_pos ⟨rfl, rfl⟩, nI_0]) (by omega) (Hm (pI h1 0 21 0) d)
      obtain ⟨-, -, u3, u4, -⟩ := vals24 A3 d
      obtain ⟨cB, mB, B1, B2, B3, B4, B5, B6⟩ := radd A3 A4 (by omega) (Mm mA)
      obtain ⟨-, -, -, -, u5, u6, -⟩ := vals24 B3 d
      obtain ⟨cC, mC, C1, C2, C3, C4, C5, C6⟩ := radd B3 B4 (by omega) (Tm mB)
      obtain ⟨r, hc2, h2, b1, b2, H2, -, -, -, b7, b8⟩ := day3 C3
      have hi2 := goBy_hi FU 0 mC h2 b2
      unfold fX12_holds_90
      rw [r1, bv_s, u1, bd_s, A1, bv_s, u3, bd_s, B1, bv_s, u5, bd_s, C1, bv_s, nm_e1, nI_1, nm_e1, u2, bd_s, A2, bv_s, u4, bd_s, B2, bv_s, u6, bd_s, C2, bv_s, b2, bv_s, nm_e1]
      have ni : ¬ nI i = (-2 : Int32) := fun z => by have := congrArg Int32.toInt z; rw [nI_toInt (by omega), show (-2 : Int32).toInt = -2 by decide +kernel] at this; omega
      have fc : ∀ b j, ¬ b = 4 → ¬ b = 35 → gI cC b j = gI hc1 b j := fun b j z1 z2 => by rw [C5 b j z1 z2, B5 b j z1 z2, A5 b j z1 z2, gI_pI, if_neg (fun y => z1 y.1)]
      have fm : ∀ b j, ¬ b = 10 → ¬ (b = 0 ∧ j = 21) → gI mC b j = gI h1 b j := fun b j z1 z2 => by rw [C6 b j z1 z2, B6 b j z1 z2, A6 b j z1 z2, gI_pI, if_neg z2]
      refine ⟨nI i, cC, h2, ?_, ?_, ?_, fun b j z1 z2 z3 z4 z5 z6 z7 => ?_, fun b j z1 z2 z3 => ?_, fun j hj => ⟨?_, ?_⟩⟩
      · rw [fX11_holds_30, if_neg ni, ite_self]
      · rw [fX12_holds_29, if_pos (nI_pos' (by omega)), ite_self]
      · obtain ⟨w1, t, ht, w2, w3⟩ := RW24 C3.1.2.2.2.1
        refine ⟨by rw [w1, b7 0 21 (by decide) (by decide)], t, ht, by rw [b7 0 21 (by decide) (by decide)]; exact w2, fun k hk => by rw [w3 k hk, b7 10 k (by decide) (by omega)]⟩
      · rw [fc b j z6 z7, a4 b j z1 z2 z3 z4]
      · rw [b7 b j z1 (by omega), fm b j z2 (by omega), a5 b j z1 z2 (by omega)]
      · rw [fc 30 j (by decide) (by decide), H1.1.1.2.2.2.2.2 j, g24 (by omega), a6 j hj, e5o]
      · rw [hi2 j hj, fm 5 j (by decide) (by omega), a6 j hj]
theorem op_holds (H : RR hc hm) (p1 : Int32) : OK2 (fX11_holds p1 hc) (fX12_holds p1 hm) := by
  have BK := RR_BKo H
  have H2 := RR_thrown 0 H
  have BK2 : BKo (pI hm 0 22 0) := BKo_cg (by rw [gI_pI, if_neg (by decide)]) (by rw [gI_pI, if_neg (by decide)]) (gI_pIr (by decide)) (gI_pIr (by decide)) BK
  simp only [fX11_holds, fX12_holds, nm_e1, f_isDepthC, f_isDepthM, bd_s, if10s]
  refine OK2_if (fun c1 => ?_) (fun _ => OK2_c H2)
  generalize pI hm 0 22 0 = h0 at *
  obtain ⟨h1, q1, q2, q3, q4⟩ := e_push (h := h0) (q := 0) (by omega) (by rw [H2.2.2, nI_0])
  have td : gI hc 1 7 = gI h0 0 16 := H2.1.2.1.2.2.2.2.2.2.2.2.2.2.1
  have S : ∀ b j, gI (cpI hc 30 31 0 0 15) b j = if b = 31 ∧ j < 15 then gI hc 30 j else gI hc b j := by
    intro b j
    rw [gI_cpI]
    by_cases z : b = 31
    · subst z
      rw [if_pos rfl]
      by_cases y : j < 15
      · rw [if_pos ⟨rfl, y⟩, pk_cpy_in (by omega) (by omega), Nat.zero_add, Nat.sub_zero]; rfl
      · rw [if_neg (fun q => y q.2), pk_cpy_out (by omega)]; rfl
    · rw [if_neg z, if_neg (fun q => z q.1)]
  have HS1 : RR (cpI hc 30 31 0 0 15) (pI h1 0 24 0) := RR_cg (hc := hc) (hm := h0) (fun b j q => by rw [S, if_neg (by rintro ⟨rfl, -⟩; cases q)]) (fun b j q => by
    rw [gI_pI]
    by_cases z : b = 0 ∧ j = 24
    · rw [if_pos z, z.1, z.2, H2.2.2]
    · rw [if_neg z, q3 b j (by rintro rfl; cases q) z]) H2
  have BK1 : BKo h1 := BKo_cg (q3 0 31 (by decide) (by decide)) (q3 0 32 (by decide) (by decide)) (funext fun j => q3 13 j (by decide) (by omega)) (funext fun j => q3 12 j (by decide) (by omega)) BK2
  obtain ⟨r, hcE, hE, l1, l2, l3, l4, l5, l6⟩ := hol_loop (d := p1) (v2 := gI h0 0 16) 401 0 _ h1 (by omega) HS1 BK1 FU FU (FU_gt (by omega)) (FU_gt (by omega))
  rw [nI_0] at l1 l2
  have c15 : cpok 0 0 15 15 15 = true := cpok15
  obtain ⟨h3, k1, k2, k3, k4⟩ := e_pop (h := hE) (q := 0) (by omega) (by rw [l5 0 24 (by decide) (by decide) (by decide)]; exact q2)
  unfold fX4_save
  rw [c15, ck_t, nm_e1, bv_s, cl0, cl15, td, l1, q1, bv_s, l2]
  unfold fX11_holds_133 fX12_holds_100 fX4_restore
  rw [c15, ck_t, nm_e1, bv_s, cl0, cl15, nm_e1, k1, bv_s, nm_e1]
  have C : ∀ b j, gI (pI (cpI hcE 31 30 0 0 15) 1 7 (gI h0 0 16)) b j = if b = 1 ∧ j = 7 then gI hc 1 7 else if b = 30 then gI hc 30 j else gI hcE b j := by
    intro b j
    rw [gI_pI]
    by_cases z0 : b = 1 ∧ j = 7
    · rw [if_pos z0, if_pos z0, td]
    · rw [if_neg z0, if_neg z0, gI_cpI]
      by_cases z : b = 30
      · subst z
        rw [if_pos rfl, if_pos rfl]
        by_cases y : j < 15
        · rw [pk_cpy_in (by omega) (by omega), Nat.zero_add, Nat.sub_zero]
          have : gI hcE 31 j = gI hc 30 j := by rw [l4 31 j (by decide) (by decide) (by decide) (by omega) (by omega) (by decide) (by decide), S, if_pos ⟨rfl, y⟩]
          exact this
        · rw [pk_cpy_out (by omega)]
          have : gI hcE 30 j = gI hc 30 j := by rw [(l6 j y).1, S, if_neg (by omega)]
          exact this
      · rw [if_neg z, if_neg z]
  have M5 : ∀ j, gI h3 5 j = gI h0 5 j := fun j => by
    rw [k4 j]
    by_cases y : j < 15
    · rw [if_pos y, l5 11 _ (by decide) (by decide) (by omega), q4, if_pos (by omega)]
      congr 1
      omega
    · rw [if_neg y, (l6 j y).2, q3 5 j (by decide) (by omega)]
  refine ⟨r, _, _, rfl, rfl, RR_upW (hc := hc) (hm := h0) (fun b j q => ?_) (fun b j q => ?_) ?_ H2⟩
  · rw [C]
    by_cases z0 : b = 1 ∧ j = 7
    · rw [if_pos z0, z0.1, z0.2]
    · rw [if_neg z0]
      by_cases z : b = 30
      · rw [if_pos z, z]
      · have z5 : ¬ (b = 5 ∧ 9 ≤ j) := by
          rintro ⟨rfl, y⟩
          simp only [kcUW, Bool.or_eq_true, beq_iff_eq] at q
          omega
        rw [if_neg z, l4 b j z (by rintro rfl; cases q) (by rintro rfl; cases q) z5 z0 (by rintro rfl; cases q) (by rintro rfl; cases q), S, if_neg (by rintro ⟨rfl, -⟩; cases q)]
  · rw [gI_pI]
    by_cases z0 : b = 0 ∧ j = 16
    · rw [if_pos z0, z0.1, z0.2]
    · rw [if_neg z0]
      by_cases z1 : b = 0 ∧ j = 24
      · rw [z1.1, z1.2, k2, nI_0, H2.2.2]
      · by_cases z5 : b = 5
        · subst z5; exact M5 j
        · have z3 : ¬ (b = 0 ∧ (j = 16 ∨ j = 21 ∨ (26 ≤ j ∧ j ≤ 30) ∨ j = 37 ∨ j = 38)) := by
            rintro ⟨rfl, y⟩
            simp only [kmUW, Bool.or_eq_true, beq_iff_eq] at q
            omega
          rw [k3 b j z5 z1, l5 b j z5 (by rintro rfl; cases q) z3, q3 b j (by rintro rfl; cases q) z1]
  · obtain ⟨w1, t, ht, w2, w3⟩ := l3
    have g21 : gI (pI h3 0 16 (gI h0 0 16)) 0 21 = gI hE 0 21 := by rw [gI_pI, if_neg (by decide), k3 0 21 (by decide) (by decide)]
    refine ⟨?_, t, ht, by rw [g21]; exact w2, fun k hk => ?_⟩
    · rw [C, if_neg (by decide), if_neg (by decide), g21]; exact w1
    · rw [C, if_neg (by omega), if_neg (by decide), gI_pI, if_neg (by omega), k3 10 k (by decide) (by omega)]; exact w3 k hk
end HOL
