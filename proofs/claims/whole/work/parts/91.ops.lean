section LAS
variable {hc hm : HS}
theorem InR_cg {h h' : HS} (s : ∀ b j, ¬ b = 11 → ¬ b = 21 → ¬ (b = 0 ∧ 12 ≤ j) → gI h' b j = gI h b j) (d : Int32) (x : Int) : InR h' d x ↔ InR h d x := by
  obtain ⟨a1, -, -, a4, -, a5⟩ := sm_M (h := h) (h' := h') (s _ _ (by decide) (by decide) (by decide)) (s _ _ (by decide) (by decide) (by decide)) (s _ _ (by decide) (by decide) (by decide)) (s _ _ (by decide) (by decide) (by decide)) (s _ _ (by decide) (by decide) (by decide)) (s _ _ (by decide) (by decide) (by decide)) (s _ _ (by decide) (by decide) (by decide)) (fun j => s _ _ (by decide) (by decide) (by omega)) (fun j => s _ _ (by decide) (by decide) (by omega)) (fun j => s _ _ (by decide) (by decide) (by omega)) (fun j => s _ _ (by decide) (by decide) (by omega))
  obtain ⟨b1, b2, -⟩ := a5 (fun j => s _ _ (by decide) (by decide) (by omega))
  have t : tanksM h' = tanksM h := tanksM_cg (s _ _ (by decide) (by decide) (by decide)) (fun j => s _ _ (by decide) (by decide) (by omega)) (fun j => s _ _ (by decide) (by decide) (by omega))
  have f2 : gI h' 2 = gI h 2 := funext fun j => s _ _ (by decide) (by decide) (by omega)
  have f4 : gI h' 4 = gI h 4 := funext fun j => s _ _ (by decide) (by decide) (by omega)
  have f5 : gI h' 5 = gI h 5 := funext fun j => s _ _ (by decide) (by decide) (by omega)
  have eH : Hm h' d = Hm h d := by unfold Hm; rw [b1, a4]
  unfold InR rV3 rV4
  rw [t, f2, f4, f5, eH, b2, s 8 0 (by decide) (by decide) (by decide), s 8 1 (by decide) (by decide) (by decide)]
theorem goBy_hi : ∀ (n : Nat) (i : Int32) (h h' : HS), fX12_goBy_2 n i h = some h' → ∀ j, ¬ j < 15 → gI h' 5 j = gI h 5 j := by
  intro n
  induction n with
  | zero => intro i h h' e; cases e
  | succ n ih =>
    intro i h h' e j hj
    rw [fX12_goBy_2] at e
    simp only [nm_e1] at e
    by_cases c1 : gI h 0 0 ≤ i
    · rw [if_pos c1] at e
      cases e
      rw [gI_pI, if_neg (by omega)]
    · rw [if_neg c1] at e
      obtain ⟨x1, e⟩ := ck_x e
      have l1 := inb_lt x1
      by_cases c2 : gI h 1 i.toNatClampNeg = 1
      · rw [if_pos c2] at e
        obtain ⟨-, e⟩ := ck_x e
        obtain ⟨-, e⟩ := ck_x e
        obtain ⟨-, e⟩ := ck_x e
        obtain ⟨-, e⟩ := ck_x e
        obtain ⟨-, e⟩ := ck_x e
        split at e
        · rw [ih _ _ _ e j hj, gI_pI, if_neg (by omega)]
        · obtain ⟨x2, e⟩ := ck_x e
          have l2 := inb_lt x2
          obtain ⟨r, h2, e2, e⟩ := bd_x e
          obtain ⟨-, e⟩ := ck_x e
          obtain ⟨-, e⟩ := ck_x e
          have l3 : h2 = pI h 5 i.toNatClampNeg (gI h 5 i.toNatClampNeg - imin (gI h 30 i.toNatClampNeg) (gI h 5 i.toNatClampNeg)) := by
            unfold fX12_roomOf at e2
            obtain ⟨-, e2⟩ := ck_x e2
            obtain ⟨-, e2⟩ := ck_x e2
            cases e2
            rfl
          rw [ih _ _ _ e j hj, gI_pI, if_neg (by omega), l3, gI_pI, if_neg (by omega)]
      · rw [if_neg c2] at e
        exact ih _ _ _ e j hj
def exD (h h' : HS) : Prop := ∀ b j, ¬ b = 5 → ¬ b = 21 → ¬ (b = 0 ∧ (j = 16 ∨ j = 45 ∨ j = 46 ∨ j = 47)) → gI h' b j = gI h b j
theorem exD_t {h h1 h2 : HS} (a : exD h h1) (b : exD h1 h2) : exD h h2 := fun x j z1 z2 z3 => (b x j z1 z2 z3).trans (a x j z1 z2 z3)
theorem il24 {h : HS} (I : IL (pI h 0 24 0)) : IL h := IL_cg (hm := pI h 0 24 0) (fun b j q => by rw [gI_pI, if_neg (by rintro ⟨rfl, rfl⟩; cases q)]) I
theorem ib24 {h : HS} (I : IB (pI h 0 24 0)) : IB h := IB_cg (hm := pI h 0 24 0) (fun b j q => by rw [gI_pI, if_neg (by rintro ⟨rfl, rfl⟩; cases q)]) I
theorem inr24 {h : HS} (d : Int32) (x : Int) : InR (pI h 0 24 0) d x ↔ InR h d x := InR_cg (fun b j _ _ z => by rw [gI_pI, if_neg (by omega)]) d x
theorem rr24 {h h' : HS} (s : exR h h') (H : RR hc (pI h 0 24 0)) : RR hc (pI h' 0 24 0) := RR_exR (fun b j z1 z2 => by
  rw [gI_pI, gI_pI]
  by_cases z : b = 0 ∧ j = 24
  · rw [if_pos z, if_pos z]
  · rw [if_neg z, if_neg z, s b j z1 z2]) H
theorem exR_D {h h' : HS} (s : exR h h') : exD h h' ∧ ∀ j, gI h' 5 j = gI h 5 j := ⟨fun b j z1 z2 z3 => s b j z2 (by omega), fun j => s 5 j (by decide) (by omega)⟩
/-- where nothing is eaten any more -/
theorem las_tail {d td : Int32} (hd : 0 ≤ d ∧ d ≤ 600) : ∀ (k i : Nat) (hc h : HS), i + k = 401 → RR hc (pI h 0 24 0) → NEi h 0 → (∃ s, InR h d s) → ∀ m, k < m → ∃ hE, fX12_lastsFor_15 m d td (-2) (nI i) h = fX12_lastsFor_48 td (-2) hE ∧ exD h hE ∧ (∀ j, ¬ j < 15 → gI hE 5 j = gI h 5 j) := by
  intro k
  have e4 : (400 : Int32) = nI 400 := by decide +kernel
  induction k with
  | zero =>
    intro i hc h hi H _ _ m hm1
    obtain ⟨m', rfl⟩ := fuel1 hm1
    refine ⟨h, ?_, fun _ _ _ _ _ => rfl, fun _ _ => rfl⟩
    rw [fX12_lastsFor_15, e4, if_pos (nI_lt (by omega) (by omega))]
  | succ k ih =>
    intro i hc h hi H ne hs m hm1
    obtain ⟨m', rfl⟩ := fuel1 hm1
    obtain ⟨h5, R', b1, b2, b3⟩ := e_canM (il24 H.2.1.1) (ib24 H.2.1.2.1) hd
    obtain ⟨s, hs⟩ := hs
    obtain ⟨x1, x2⟩ := exR_D b2
    have H5 := rr24 b2 H
    obtain ⟨r, hc', h', a1, a2, a3, a4, a5, a6, a7, a8⟩ := day3 H5
    have ne5 : NEi h5 0 := (NEi_cg (b2 0 0 (by decide) (by decide)) (fun j => b2 1 j (by decide) (by omega)) (fun j => b2 30 j (by decide) (by omega)) x2).mpr ne
    obtain ⟨y1, y2⟩ := a6 ne5
    have sm : ∀ b j, ¬ b = 21 → ¬ (b = 0 ∧ (j = 16 ∨ j = 45 ∨ j = 46 ∨ j = 47)) → gI h' b j = gI h b j := fun b j z1 z2 => by
      by_cases z : b = 5
      · subst z; rw [y2, x2]
      · rw [a7 b j z (by omega), b2 b j z1 (by omega)]
    rw [fX12_lastsFor_15, e4, if_neg (nI_nlt (by omega) (by omega)), if_neg (by decide), b1, bd_s]
    unfold fX12_lastsFor_38
    rw [a2, bv_s]
    simp only [nm_e1, nI_1]
    rcases b3 with ⟨rfl, n1⟩ | ⟨rfl, -⟩
    · exact absurd hs (n1 s)
    · rw [if_neg (by decide)]
      obtain ⟨hE, c1, c2, c3⟩ := ih (i + 1) hc' h' (by omega) a3 ((NEi_cg (sm 0 0 (by decide) (by decide)) (fun j => sm 1 j (by decide) (by omega)) (fun j => sm 30 j (by decide) (by omega)) (fun j => sm 5 j (by decide) (by omega))).mpr ne) ⟨s, (InR_cg (fun b j z1 z2 z3 => sm b j z2 (by omega)) d s).mpr hs⟩ m' (by omega)
      refine ⟨hE, c1, fun b j z1 z2 z3 => (c2 b j z1 z2 z3).trans (sm b j z2 z3), fun j hj => by rw [c3 j hj, sm 5 j (by decide) (by omega)]⟩
theorem las_loop {d td : Int32} (hd : 0 ≤ d ∧ d ≤ 600) : ∀ (k i : Nat) (hc h : HS), i + k = 401 → RR hc (pI h 0 24 0) → ∀ n m, k + 1 < n → k + 1 < m → ∃ r hcE hE, fX8_daysInReach_24 n d td (-2) 1 (nI i) hc = fX8_daysInReach_69 td r hcE ∧ fX12_lastsFor_15 m d td (-2) (nI i) h = fX12_lastsFor_48 td r hE ∧ (r = -2 ∨ ∃ t : Nat, t ≤ 400 ∧ r = nI t) ∧ (∀ b j, ¬ b = 30 → ¬ (b = 1 ∧ j = 7) → gI hcE b j = gI hc b j) ∧ exD h hE ∧ (∀ j, ¬ j < 15 → gI hcE 30 j = gI hE 5 j) := by
  intro k
  have e4 : (400 : Int32) = nI 400 := by decide +kernel
  induction k with
  | zero =>
    intro i hc h hi H n m hn hm1
    obtain ⟨n', rfl⟩ := fuel1 hn
    obtain ⟨m', rfl⟩ := fuel1 hm1
    refine ⟨-2, hc, h, ?_, ?_, Or.inl rfl, fun _ _ _ _ => rfl, fun _ _ _ _ _ => rfl, fun j _ => ?_⟩
    · rw [fX8_daysInReach_24, e4, if_pos (nI_lt (by omega) (by omega))]
    · rw [fX12_lastsFor_15, e4, if_pos (nI_lt (by omega) (by omega))]
    · rw [H.1.1.2.2.2.2.2 j, gI_pI, if_neg (by omega)]
  | succ k ih =>
    intro i hc h hi H n m hn hm1
    obtain ⟨n', rfl⟩ := fuel1 hn
    obtain ⟨m', rfl⟩ := fuel1 hm1
    obtain ⟨n2, rfl⟩ := fuel1 (show k < n' by omega)
    obtain ⟨m2, rfl⟩ := fuel1 (show k < m' by omega)
    obtain ⟨h5, R', b1, b2, b3⟩ := e_canM (il24 H.2.1.1) (ib24 H.2.1.2.1) hd
    obtain ⟨hc5, R, c1, c2, c3⟩ := e_find H hd
    obtain ⟨x1, x2⟩ := exR_D b2
    have H5 : RR hc5 (pI h5 0 24 0) := rr24 b2 (RR_1 c2 H)
    have ci : ∀ b j, gI hc5 b j = gI hc b j := fun b j => by unfold gI; rw [c2]
    obtain ⟨r, hc', h', a1, a2, a3, a4, a5, a6, a7, a8⟩ := day3 H5
    have hi5 := goBy_hi FU 0 h5 h' a2
    have eD : exD h h' := fun b j z1 z2 z3 => by rw [a7 b j z1 (by omega), b2 b j z2 (by omega)]
    have n2n : ¬ (0 : Int32) ≤ -2 := by decide
    rw [fX8_daysInReach_24, e4, if_neg (nI_nlt (by omega) (by omega)), if_neg (by decide), c1, bd_s, fX12_lastsFor_15, e4, if_neg (nI_nlt (by omega) (by omega)), if_neg n2n, b1, bd_s]
    unfold fX12_lastsFor_38
    rw [a2, bv_s, a1]
    simp only [nm_e1, nI_1, bv_s, bd_s]
    rcases c3 with ⟨rfl, n1⟩ | ⟨rfl, i1, -, -⟩
    · rcases b3 with ⟨rfl, n2'⟩ | ⟨rfl, lo, hi, -, -, j1, -⟩
      · rw [if_pos rfl, if_pos rfl]
        refine ⟨nI i, hc5, h', ?_, ?_, Or.inr ⟨i, by omega, rfl⟩, fun b j _ _ => ci b j, eD, fun j hj => ?_⟩
        · rw [fX8_daysInReach_24, if_pos rfl, ite_self]
        · rw [fX12_lastsFor_15, if_pos (nI_pos' (by omega)), ite_self]
        · rw [hi5 j hj, H5.1.1.2.2.2.2.2 j, gI_pI, if_neg (by omega)]
      · exact absurd ((inr24 d _).mpr j1) (n1 _)
    · rcases b3 with ⟨rfl, n2'⟩ | ⟨rfl, lo, hi, -, -, j1, -⟩
      · exact absurd ((inr24 d _).mp i1) (n2' _)
      · rw [if_neg (by decide), if_neg (by decide)]
        rcases a4 with rfl | rfl
        · -- nothing was eaten: the class stops, the model goes on alone
          have ne5 := a5 rfl
          obtain ⟨-, y2⟩ := a6 ne5
          have sm : ∀ b j, ¬ b = 21 → ¬ (b = 0 ∧ (j = 16 ∨ j = 45 ∨ j = 46 ∨ j = 47)) → gI h' b j = gI h b j := fun b j z1 z2 => by
            by_cases z : b = 5
            · subst z; rw [y2, x2]
            · exact eD b j z z1 z2
          have sm5 : ∀ b j, ¬ (b = 0 ∧ j = 16) → gI h' b j = gI h5 b j := fun b j z2 => by
            by_cases z : b = 5
            · subst z; exact y2 j
            · exact a7 b j z z2
          obtain ⟨hE, t1, t2, t3⟩ := las_tail (td := td) hd k (i + 1) hc' h' (by omega) a3 ((NEi_cg (sm5 0 0 (by decide)) (fun j => sm5 1 j (by omega)) (fun j => sm5 30 j (by omega)) y2).mpr ne5) ⟨lo, (InR_cg (fun b j z1 z2 z3 => sm b j z2 (by omega)) d lo).mpr j1⟩ (m2 + 1) (by omega)
          refine ⟨-2, hc', hE, ?_, t1, Or.inl rfl, fun b j z1 z2 => by rw [a8 b j z1 z2, ci], exD_t eD t2, fun j hj => ?_⟩
          · rw [fX8_daysInReach_24, if_pos rfl, ite_self]
          · rw [t3 j hj, a3.1.1.2.2.2.2.2 j, gI_pI, if_neg (by omega)]
        · obtain ⟨r2, hcE, hE, t1, t2, t3, t4, t5, t6⟩ := ih (i + 1) hc' h' (by omega) a3 (n2 + 1) (m2 + 1) (by omega) (by omega)
          exact ⟨r2, hcE, hE, t1, t2, t3, fun b j z1 z2 => by rw [t4 b j z1 z2, a8 b j z1 z2, ci], exD_t eD t5, t6⟩
theorem las_both {h : HS} {q : Nat} (hq : q < 3) (e24 : gI h 0 24 = nI q) (H : RR hc (pI h 0 24 0)) {d : Int32} (hd : 0 ≤ d ∧ d ≤ 600) : ∃ r hc' h', fX8_daysInReach d hc = some (r, hc') ∧ fX12_lastsFor d h = some (r, h') ∧ (r = -2 ∨ ∃ t : Nat, t ≤ 400 ∧ r = nI t) ∧ RR hc' (pI h' 0 24 0) ∧ gI h' 0 24 = nI q ∧ (∀ j, j < 15 → gI hc' 30 j = gI hc 30 j) ∧ (∀ j, j < 15 → gI h' 5 j = gI h 5 j) ∧ (∀ b j, ¬ b = 30 → ¬ b = 31 → gI hc' b j = gI hc b j) ∧ (∀ b j, ¬ b = 5 → ¬ b = 11 → ¬ b = 21 → ¬ (b = 0 ∧ (j = 45 ∨ j = 46 ∨ j = 47)) → gI h' b j = gI h b j) ∧ (∀ j, j < 15 * q → gI h' 11 j = gI h 11 j) := by
  have h15 := RR_15 H
  have td : gI hc 1 7 = gI h 0 16 := by
    have := H.1.2.1.2.2.2.2.2.2.2.2.2.2.1
    rw [this, gI_pI, if_neg (by decide)]
  obtain ⟨h1, p1, p2, p3, p4⟩ := e_push (h := h) (q := q) (by omega) e24
  have S : ∀ b j, gI (cpI hc 30 31 0 0 15) b j = if b = 31 ∧ j < 15 then gI hc 30 j else gI hc b j := by
    intro b j
    rw [gI_cpI]
    by_cases z : b = 31
    · subst z
      rw [if_pos rfl]
      by_cases y : j < 15
      · rw [if_pos ⟨rfl, y⟩, pk_cpy_in (by omega) (by omega), Nat.zero_add, Nat.sub_zero]; rfl
      · rw [if_neg (fun q => y q.2), pk_cpy_out (by omega)]; rfl
    · rw [if_neg z, if_neg (fun q => z q.1)]
  have HS1 : RR (cpI hc 30 31 0 0 15) (pI h1 0 24 0) := RR_cg (hc := hc) (hm := pI h 0 24 0) (fun b j q => by rw [S, if_neg (by rintro ⟨rfl, -⟩; cases q)]) (fun b j q => by
    rw [gI_pI, gI_pI]
    by_cases z : b = 0 ∧ j = 24
    · rw [if_pos z, if_pos z]
    · rw [if_neg z, if_neg z, p3 b j (by rintro rfl; cases q) z]) H
  obtain ⟨r, hcE, hE, l1, l2, l3, l4, l5, l6⟩ := las_loop (td := gI hc 1 7) hd 401 0 _ h1 (by omega) HS1 FU FU (FU_gt (by omega)) (FU_gt (by omega))
  rw [nI_0] at l1 l2
  have eE24 : gI hE 0 24 = nI (q + 1) := by rw [l5 0 24 (by decide) (by decide) (by decide)]; exact p2
  obtain ⟨h3, k1, k2, k3, k4⟩ := e_pop (h := hE) (q := q) (by omega) eE24
  have E11 : ∀ j, gI hE 11 j = gI h1 11 j := fun j => l5 11 j (by decide) (by decide) (by omega)
  have c15 : cpok 0 0 15 15 15 = true := cpok15
  have C : ∀ b j, gI (pI (cpI hcE 31 30 0 0 15) 1 7 (gI hc 1 7)) b j = if b = 1 ∧ j = 7 then gI hc 1 7 else if b = 30 ∧ j < 15 then gI hc 30 j else gI hcE b j := by
    intro b j
    rw [gI_pI]
    by_cases z0 : b = 1 ∧ j = 7
    · rw [if_pos z0, if_pos z0]
    · rw [if_neg z0, if_neg z0, gI_cpI]
      by_cases z : b = 30
      · subst z
        rw [if_pos rfl]
        by_cases y : j < 15
        · rw [if_pos ⟨rfl, y⟩, pk_cpy_in (by omega) (by omega), Nat.zero_add, Nat.sub_zero]
          have : gI hcE 31 j = gI hc 30 j := by rw [l4 31 j (by decide) (by omega), S, if_pos ⟨rfl, y⟩]
          exact this
        · rw [if_neg (fun q => y q.2), pk_cpy_out (by omega)]; rfl
      · rw [if_neg z, if_neg (fun q => z q.1)]
  have Mx : ∀ b j, gI (pI h3 0 16 (gI hc 1 7)) b j = if b = 0 ∧ j = 16 then gI h 0 16 else if b = 0 ∧ j = 24 then nI q else if b = 5 then (if j < 15 then gI h 5 j else gI hE 5 j) else gI hE b j := by
    intro b j
    rw [gI_pI]
    by_cases z0 : b = 0 ∧ j = 16
    · rw [if_pos z0, if_pos z0, td]
    · rw [if_neg z0, if_neg z0]
      by_cases z1 : b = 0 ∧ j = 24
      · rw [if_pos z1, z1.1, z1.2, k2]
      · rw [if_neg z1]
        by_cases z5 : b = 5
        · subst z5
          rw [if_pos rfl, k4 j]
          by_cases y : j < 15
          · rw [if_pos y, if_pos y, E11, p4, if_pos (by omega)]
            congr 1
            omega
          · rw [if_neg y, if_neg y]
        · rw [if_neg z5, k3 b j z5 z1]
  have fr : ∀ b j, ¬ b = 5 → ¬ b = 11 → ¬ b = 21 → ¬ (b = 0 ∧ (j = 45 ∨ j = 46 ∨ j = 47)) → gI (pI h3 0 16 (gI hc 1 7)) b j = gI h b j := fun b j z1 z2 z3 z4 => by
    rw [Mx]
    by_cases y0 : b = 0 ∧ j = 16
    · rw [if_pos y0, y0.1, y0.2]
    · rw [if_neg y0]
      by_cases y1 : b = 0 ∧ j = 24
      · rw [if_pos y1, y1.1, y1.2, e24]
      · rw [if_neg y1, if_neg z1, l5 b j z1 z3 (by omega), p3 b j z2 y1]
  refine ⟨r, pI (cpI hcE 31 30 0 0 15) 1 7 (gI hc 1 7), pI h3 0 16 (gI hc 1 7), ?_, ?_, l3, ?_, ?_, fun j hj => ?_, fun j hj => ?_, fun b j z1 z2 => ?_, fr, fun j hj => ?_⟩
  · unfold fX8_daysInReach fX4_save
    rw [nm_e1, c15, ck_t, nm_e1, bv_s, cl0, cl15, l1]
    unfold fX8_daysInReach_69 fX4_restore
    rw [c15, ck_t, nm_e1, bv_s, cl0, cl15, nm_e1]
  · unfold fX12_lastsFor
    rw [nm_e1, p1, bv_s, ← td, l2]
    unfold fX12_lastsFor_48
    rw [k1, bv_s, nm_e1]
  · refine RR_has (hc := hc) (hm := pI h 0 24 0) (fun b j q => ?_) (fun b j q => ?_) (fun k => ?_) (fun i hi => ?_) H
    · rw [C]
      by_cases z0 : b = 1 ∧ j = 7
      · rw [if_pos z0, z0.1, z0.2]
      · have n30 : ¬ b = 30 := by rintro rfl; simp [kcH] at q
        have n31 : ¬ b = 31 := by rintro rfl; simp [kcH, kcA] at q
        rw [if_neg z0, if_neg (fun z => n30 z.1), l4 b j n30 z0, S, if_neg (fun z => n31 z.1)]
    · have n5 : ¬ b = 5 := by rintro rfl; simp [kmH] at q
      have n11 : ¬ b = 11 := by rintro rfl; simp [kmH, kmA] at q
      have n21 : ¬ b = 21 := by rintro rfl; simp [kmH, kmA] at q
      have n4 : ¬ (b = 0 ∧ (j = 45 ∨ j = 46 ∨ j = 47)) := by rintro ⟨rfl, rfl | rfl | rfl⟩ <;> simp [kmH, kmA] at q
      by_cases z : b = 0 ∧ j = 24
      · rw [gI_pI, if_pos z, gI_pI, if_pos z]
      · rw [gI_pI, if_neg z, fr b j n5 n11 n21 n4, gI_pI, if_neg z]
    · have e1 : gI (pI (cpI hcE 31 30 0 0 15) 1 7 (gI hc 1 7)) 30 k = if k < 15 then gI hc 30 k else gI hcE 30 k := by
        rw [C, if_neg (by omega)]
        by_cases y : k < 15
        · rw [if_pos ⟨rfl, y⟩, if_pos y]
        · rw [if_neg (fun z => y z.2), if_neg y]
      have e2 : gI (pI (pI h3 0 16 (gI hc 1 7)) 0 24 0) 5 k = if k < 15 then gI h 5 k else gI hE 5 k := by
        rw [gI_pI, if_neg (by omega), Mx, if_neg (by omega), if_neg (by omega), if_pos rfl]
      rw [e1, e2]
      by_cases y : k < 15
      · rw [if_pos y, if_pos y, H.1.1.2.2.2.2.2 k, gI_pI, if_neg (by omega)]
      · rw [if_neg y, if_neg y]
        exact l6 k y
    · obtain ⟨-, -, -, x1, x2, -⟩ := H.2.1.1.2 i hi
      rw [gI_pI, if_neg (by omega)] at x1 x2
      rw [gI_pI, if_neg (by omega), Mx, if_neg (by omega), if_neg (by omega), if_pos rfl, if_pos (by omega)]
      exact ⟨x1, x2⟩
  · rw [Mx, if_neg (by decide), if_pos ⟨rfl, rfl⟩]
  · rw [C, if_neg (by omega), if_pos ⟨rfl, hj⟩]
  · rw [Mx, if_neg (by omega), if_neg (by omega), if_pos rfl, if_pos hj]
  · rw [C]
    by_cases z0 : b = 1 ∧ j = 7
    · rw [if_pos z0, z0.1, z0.2]
    · rw [if_neg z0, if_neg (fun z => z1 z.1), l4 b j z1 z0, S, if_neg (fun z => z2 z.1)]
  · rw [Mx, if_neg (by omega), if_neg (by omega), if_neg (by omega), E11, p4, if_neg (by omega)]
theorem z24 (H : RR hc hm) : pI hm 0 24 0 = hm := by
  have := pI_self (h := hm) (a := 0) (k := 24)
  rw [H.2.2] at this
  exact this
theorem op_lasts (H : RR hc hm) (p1 : Int32) : OK2 (fX11_lasts p1 hc) (fX12_lasts p1 hm) := by
  have H2 := RR_thrown 0 H
  simp only [fX11_lasts, fX12_lasts, nm_e1, f_isDepthC, f_isDepthM, bd_s, if10s]
  refine OK2_if (fun hd => ?_) (fun _ => OK2_c H2)
  obtain ⟨r, hc', h', a1, a2, -, a3, a4, -⟩ := las_both (q := 0) (by omega) (by rw [nI_0]; exact H2.2.2) (by rw [z24 H2]; exact H2) hd
  rw [a1, bd_s, a2, bd_s]
  have e : pI h' 0 24 0 = h' := by
    have := pI_self (h := h') (a := 0) (k := 24)
    rw [a4, nI_0] at this
    exact this
  rw [e] at a3
  exact OK2_c a3
end LAS
