section MOR
theorem isA_n {h : HS} {N l : Nat} (hN : N ≤ 15) (e : gI h 2 8 = nI N) (hl : l < 16) : fX4_isA (nI l) 0 h = some (if l < N ∧ gI h 26 l = 0 then 1 else 0, h) := by
  unfold fX4_isA fX4_there
  rw [if_neg (nI_pos (by omega)), e]
  by_cases c : l < N
  · rw [if_neg (nI_ge c (by omega)), bd_s, if_neg (by decide), inb_n (show l < 15 by omega) (by omega), ck_t, nI_clamp (by omega)]
    by_cases c2 : gI h 26 l = 0
    · rw [if_pos c2, if_pos ⟨c, c2⟩]
    · rw [if_neg c2, if_neg (fun z => c2 z.2)]
  · rw [if_pos (nI_le (by omega) (by omega)), bd_s, if_pos rfl, if_neg (fun z => c z.1)]
theorem isOf_n {h : HS} {N l : Nat} (hN : N ≤ 15) (e : gI h 0 0 = nI N) (hl : l < 16) : fX12_isOf (nI l) 0 h = some (if l < N ∧ gI h 1 l = 0 then 1 else 0, h) := by
  unfold fX12_isOf
  rw [isL_n hN e (by omega), bd_s, if10s]
  by_cases c : l < N
  · rw [if_pos c, inb_n (show l < 15 by omega) (by omega), ck_t, nI_clamp (by omega)]
    by_cases c2 : gI h 1 l = 0
    · rw [if_pos c2, if_pos ⟨c, c2⟩]
    · rw [if_neg c2, if_neg (fun z => c2 z.2)]
  · rw [if_neg c, if_neg (fun z => c z.1)]
def exD1 (h h' : HS) : Prop := ∀ b j, ¬ b = 30 → ¬ b = 39 → ¬ b = 14 → ¬ (b = 5 ∧ 9 ≤ j) → gI h' b j = gI h b j
def exD2 (h h' : HS) : Prop := ∀ b j, ¬ b = 5 → ¬ b = 10 → ¬ (b = 0 ∧ (j = 21 ∨ (26 ≤ j ∧ j ≤ 30) ∨ j = 37 ∨ j = 38)) → gI h' b j = gI h b j
theorem exD1_t {h h1 h2 : HS} (a : exD1 h h1) (b : exD1 h1 h2) : exD1 h h2 := fun x j z1 z2 z3 z4 => (b x j z1 z2 z3 z4).trans (a x j z1 z2 z3 z4)
theorem exD2_t {h h1 h2 : HS} (a : exD2 h h1) (b : exD2 h1 h2) : exD2 h h2 := fun x j z1 z2 z3 => (b x j z1 z2 z3).trans (a x j z1 z2 z3)
theorem RR_39 {hc hc' hm : HS} (s : ∀ b j, ¬ b = 39 → ¬ (b = 5 ∧ 9 ≤ j) → gI hc' b j = gI hc b j) (H : RR hc hm) : RR hc' hm := RR_cg (fun b j q => by
  refine s b j ?_ ?_
  · rintro rfl; cases q
  · rintro ⟨rfl, y⟩
    simp only [kcA, Bool.or_eq_true, beq_iff_eq] at q
    omega) cg_rf H
/-- the sign of a line in the row -/
theorem m_tell {h M : HS} {q i l N : Nat} {fl v : Int32} (hN : N ≤ 15) (hi : i < 15) (hl : l < 16) (x : exV h M) (e0 : gI h 0 0 = nI N) (eq : gI h 0 31 = nI q) (hiq : i < q) (hq : q ≤ 15) (el : gI h 14 i = nI l) (er : ¬ fl = 0 → gI h 0 21 = nI i) (m : Nat) : ∃ hT, fX12_doMorning_14 (m + 1) fl v (nI i) h = fX12_doMorning_63 (fX12_doMorning_14 m) fl v (nI i) (nI l) (if l < N ∧ gI h 1 l = 0 then 1 else 0) hT ∧ (fl = 0 → hT = h) ∧ (¬ fl = 0 → gI hT 0 21 = nI (i + 1) ∧ (gI hT 10 i = if l < N ∧ gI h 1 l = 0 then gI h 5 l else -1) ∧ ∀ j, ¬ j = i → gI hT 10 j = gI h 10 j) ∧ (∀ b j, ¬ b = 10 → ¬ (b = 0 ∧ j = 21) → gI hT b j = gI h b j) := by
  have tl : ∀ s : Int32, ¬ fl = 0 → fX12_doMorning_60 (fX12_doMorning_14 m) fl v (nI i) (nI l) (if l < N ∧ gI h 1 l = 0 then 1 else 0) s h = fX12_doMorning_63 (fX12_doMorning_14 m) fl v (nI i) (nI l) (if l < N ∧ gI h 1 l = 0 then 1 else 0) (pI (pI h 10 i s) 0 21 (nI (i + 1))) := fun s hf => by
    unfold fX12_doMorning_60
    rw [e_tellM (er hf) (by omega), bv_s]
  have fr : ∀ (s : Int32), (gI (pI (pI h 10 i s) 0 21 (nI (i + 1))) 0 21 = nI (i + 1)) ∧ gI (pI (pI h 10 i s) 0 21 (nI (i + 1))) 10 i = s ∧ (∀ j, ¬ j = i → gI (pI (pI h 10 i s) 0 21 (nI (i + 1))) 10 j = gI h 10 j) ∧ (∀ b j, ¬ b = 10 → ¬ (b = 0 ∧ j = 21) → gI (pI (pI h 10 i s) 0 21 (nI (i + 1))) b j = gI h b j) := fun s => by
    refine ⟨by rw [gI_pI, if_pos ⟨rfl, rfl⟩], by rw [gI_pI, if_neg (by omega), gI_pI, if_pos ⟨rfl, rfl⟩], fun j hj => by rw [gI_pI, if_neg (by omega), gI_pI, if_neg (fun z => hj z.2)], fun b j z1 z2 => by rw [gI_pI, if_neg z2, gI_pI, if_neg (fun z => z1 z.1)]⟩
  rw [fX12_doMorning_14, eq, if_neg (nI_ge hiq (by omega)), inb_n (show i < 16 by omega) (by omega), ck_t, nI_clamp (by omega), el, nm_e1, isOf_n hN e0 hl, bd_s]
  by_cases hf : fl = 0
  · rw [if_pos hf]
    exact ⟨h, rfl, fun _ => rfl, fun z => absurd hf z, fun _ _ _ _ => rfl⟩
  · rw [if_neg hf, if10s]
    by_cases c : l < N ∧ gI h 1 l = 0
    · rw [if_pos c, inb_n (show l < 15 by omega) (by omega), ck_t, nI_clamp (by omega)]
      have t := tl (gI h 5 l) hf
      rw [if_pos c] at t
      rw [if_pos c, t, if_pos c]
      obtain ⟨f1, f2, f3, f4⟩ := fr (gI h 5 l)
      exact ⟨_, rfl, fun z => absurd z hf, fun _ => ⟨f1, f2, f3⟩, f4⟩
    · have t := tl (-1) hf
      rw [if_neg c] at t
      rw [if_neg c, if_neg c, t, if_neg c]
      obtain ⟨f1, f2, f3, f4⟩ := fr (-1)
      exact ⟨_, rfl, fun z => absurd z hf, fun _ => ⟨f1, f2, f3⟩, f4⟩
theorem dom_loop {q : Nat} (fl : Int32) (hq : q ≤ 15) : ∀ (k i : Nat) (hcx h M : HS) (v : Int32), i + k = q → RR hcx M → exV h M → BKo M → gI M 0 31 = nI q → (¬ fl = 0 → gI h 0 21 = nI i) → gI hcx 5 9 = gI h 0 37 → gI hcx 5 10 = gI h 0 38 → ∀ n m, k < n → k < m → ∃ r hcE hE ME, fX1_doMorning_14 n v (nI i) hcx = some (r, hcE) ∧ fX12_doMorning_14 m fl v (nI i) h = some (r, hE) ∧ RR hcE ME ∧ exV hE ME ∧ gI hcE 5 9 = gI hE 0 37 ∧ gI hcE 5 10 = gI hE 0 38 ∧ exD1 hcx hcE ∧ exD2 h hE ∧ onlyH M ME 5 ∧ (∀ j, ¬ j < 15 → gI hE 5 j = gI h 5 j) ∧ (∀ j, j < i → gI hcE 39 j = gI hcx 39 j) ∧ (fl = 0 → gI hE 0 21 = gI h 0 21 ∧ ∀ j, gI hE 10 j = gI h 10 j) ∧ (¬ fl = 0 → gI hE 0 21 = nI q ∧ (∀ j, j < i → gI hE 10 j = gI h 10 j) ∧ ∀ j, i ≤ j → j < q → gI hE 10 j = gI hcE 39 j) := by
  intro k
  induction k with
  | zero =>
    intro i hcx h M v hi H x BK eq er e9 e10 n m hn hm1
    obtain ⟨n', rfl⟩ := fuel1 hn
    obtain ⟨m', rfl⟩ := fuel1 hm1
    have kc : gI hcx 5 5 = nI q := H.1.2.2.2.2.1.1.trans eq
    have km : gI h 0 31 = nI q := by rw [← x 0 31 (by decide) (by decide) (by decide)]; exact eq
    have hiq : i = q := by omega
    subst hiq
    refine ⟨v, hcx, h, M, ?_, ?_, H, x, e9, e10, fun _ _ _ _ _ _ => rfl, fun _ _ _ _ _ => rfl, onlyH_r, fun _ _ => rfl, fun _ _ => rfl, fun _ => ⟨rfl, fun _ => rfl⟩, fun hf => ⟨er hf, fun _ _ => rfl, fun j h1 h2 => by omega⟩⟩
    · rw [fX1_doMorning_14, kc, if_pos (nI_le (by omega) (by omega))]
    · rw [fX12_doMorning_14, km, if_pos (nI_le (by omega) (by omega))]
  | succ k ih =>
    intro i hcx h M v hi H x BK eq er e9 e10 n m hn hm1
    obtain ⟨n', rfl⟩ := fuel1 hn
    obtain ⟨m', rfl⟩ := fuel1 hm1
    have n15 := RR_15 H
    have kc : gI hcx 5 5 = nI q := H.1.2.2.2.2.1.1.trans eq
    have km : gI h 0 31 = nI q := by rw [← x 0 31 (by decide) (by decide) (by decide)]; exact eq
    obtain ⟨-, -, -, q', s, hq', -, e1, -, -, kl⟩ := H.1.2.2.2.2.1
    have qq : q' = q := by rw [e1, nI_eq (by omega) (by omega)] at eq; exact eq
    subst qq
    obtain ⟨l1, -, ⟨l, hl, el⟩, -⟩ := kl i (by omega)
    have elh : gI h 14 i = nI l := by rw [← x 14 i (by decide) (by decide) (by omega)]; exact el
    have e0h : gI h 0 0 = nI (nLd M) := by rw [← x 0 0 (by decide) (by decide) (by decide)]; exact RR_eM H
    obtain ⟨hT, t1, t2, t3, t4⟩ := m_tell (v := v) n15 (show i < 15 by omega) hl x e0h km (by omega) hq elh er m'
    have xT : exV hT M := fun b j z1 z2 z3 => by rw [x b j z1 z2 z3, t4 b j z1 (by omega)]
    have g1 : gI (pI hcx 39 i (-1)) 26 l = gI h 1 l := by rw [gI_pI, if_neg (by omega), H.1.1.2.1 l, x 1 l (by decide) (by decide) (by omega)]
    have cA := isA_n (h := pI hcx 39 i (-1)) n15 (by rw [gI_pI, if_neg (by omega)]; exact RR_eC H) hl
    rw [g1] at cA
    rw [fX1_doMorning_14, kc, if_neg (nI_ge (by omega) (by omega)), inb_n (show i < 15 by omega) (by omega), ck_t, nI_clamp (by omega), l1, el, nm_e1, ck_t, nm_e1, cA, bd_s, if10s, t1]
    unfold fX12_doMorning_63
    by_cases c : l < nLd M ∧ gI h 1 l = 0
    · rw [if_pos c, if_pos c, if_neg (by decide)]
      have hl15 : l < 15 := by omega
      obtain ⟨O, eO⟩ : ∃ O, O = gI h 5 l := ⟨_, rfl⟩
      have o1 : gI (pI hcx 39 i (-1)) 30 l = O := by rw [gI_pI, if_neg (by omega), H.1.1.2.2.2.2.2 l, x 5 l (by decide) (by decide) (by omega), eO]
      obtain ⟨c2, ec2⟩ : ∃ y, y = pI (pI hcx 39 i (-1)) 39 i O := ⟨_, rfl⟩
      have s2 : ∀ b j, ¬ (b = 39 ∧ j = i) → gI c2 b j = gI hcx b j := fun b j z => by rw [ec2, gI_pI, if_neg z, gI_pI, if_neg z]
      have g239 : gI c2 39 i = O := by rw [ec2, gI_pI, if_pos ⟨rfl, rfl⟩]
      have H2 : RR c2 M := RR_39 (fun b j z1 _ => s2 b j (fun z => z1 z.1)) H
      obtain ⟨r, c3, h3, a1, a2, a3, a4⟩ := line_both xT H2 BK eq hq (show i < q' by omega)
      have H3 := RR_exC a3 H2
      obtain ⟨p1, p2⟩ := put_RR H3 c.1 r
      obtain ⟨W, eW⟩ : ∃ W, W = imax 0 (imin (gI M 4 l) r) := ⟨_, rfl⟩
      rw [← eW] at p1 p2
      have cap : gI hT 4 l = gI M 4 l := (xT 4 l (by decide) (by decide) (by omega)).symm
      -- what the class comes to
      have c9 : gI c3 5 9 = gI h 0 37 := by rw [a3 5 9 (by decide) (by decide), s2 5 9 (by omega), e9]
      have c10 : gI c3 5 10 = gI h 0 38 := by rw [a3 5 10 (by decide) (by decide), s2 5 10 (by omega), e10]
      have c39 : gI c3 39 i = O := by rw [a3 39 i (by decide) (by omega), g239]
      obtain ⟨c5, ec5⟩ : ∃ y, y = pI (pI (pI c3 30 l W) 5 9 (gI h 0 37 + imax 0 (W - O))) 5 10 (gI h 0 38 + imax 0 (O - W)) := ⟨_, rfl⟩
      have C5 : ∀ b j, gI c5 b j = if b = 5 ∧ j = 10 then gI h 0 38 + imax 0 (O - W) else if b = 5 ∧ j = 9 then gI h 0 37 + imax 0 (W - O) else if b = 30 ∧ j = l then W else gI c3 b j := fun b j => by rw [ec5, gI_pI, gI_pI, gI_pI]
      -- what the model comes to
      have m5 : gI h3 5 l = O := by rw [a4 5 l (by omega), t4 5 l (by decide) (by omega), eO]
      have m37 : gI h3 0 37 = gI h 0 37 := by rw [a4 0 37 (by decide), t4 0 37 (by decide) (by decide)]
      have m38 : gI h3 0 38 = gI h 0 38 := by rw [a4 0 38 (by decide), t4 0 38 (by decide) (by decide)]
      obtain ⟨h5, eh5⟩ : ∃ y, y = pI (pI (pI h3 0 37 (gI h 0 37 + imax 0 (W - O))) 0 38 (gI h 0 38 + imax 0 (O - W))) 5 l W := ⟨_, rfl⟩
      have M5 : ∀ b j, gI h5 b j = if b = 5 ∧ j = l then W else if b = 0 ∧ j = 38 then gI h 0 38 + imax 0 (O - W) else if b = 0 ∧ j = 37 then gI h 0 37 + imax 0 (W - O) else gI h3 b j := fun b j => by rw [eh5, gI_pI, gI_pI, gI_pI]
      have H5 : RR c5 (pI M 5 l W) := RR_39 (hc := pI c3 30 l W) (fun b j _ z2 => by rw [C5, if_neg (fun y => z2 ⟨y.1, by omega⟩), if_neg (fun y => z2 ⟨y.1, by omega⟩), gI_pI]) p2
      have x5 : exV h5 (pI M 5 l W) := fun b j z1 z2 z3 => by
        rw [gI_pI, M5]
        by_cases w : b = 5 ∧ j = l
        · rw [if_pos w, if_pos w]
        · rw [if_neg w, if_neg w, if_neg (by omega), if_neg (by omega), a4 b j (by omega)]
          exact xT b j z1 z2 z3
      have B5 : BKo (pI M 5 l W) := BKo_cg (by rw [gI_pI, if_neg (by omega)]) (by rw [gI_pI, if_neg (by omega)]) (gI_pIr (by decide)) (gI_pIr (by decide)) BK
      obtain ⟨r', hcE, hE, ME, d1, d2, d3, d4, d5, d6, d7, d8, d9, d10, d11, d12, d13⟩ := ih (i + 1) c5 h5 (pI M 5 l W) (v + 1) (by omega) H5 x5 B5 (by rw [gI_pI, if_neg (by omega)]; exact eq) (fun hf => by rw [M5, if_neg (by omega), if_neg (by omega), if_neg (by omega), a4 0 21 (by decide)]; exact (t3 hf).1) (by rw [C5, if_neg (by decide), if_pos ⟨rfl, rfl⟩, M5, if_neg (by omega), if_neg (by decide), if_pos ⟨rfl, rfl⟩]) (by rw [C5, if_pos ⟨rfl, rfl⟩, M5, if_neg (by omega), if_pos ⟨rfl, rfl⟩]) n' m' (by omega) (by omega)
      refine ⟨r', hcE, hE, ME, ?_, ?_, d3, d4, d5, d6, exD1_t (fun b j z1 z2 z3 z4 => ?_) d7, exD2_t (fun b j z1 z2 z3 => ?_) d8, onlyH_t (onlyH_p onlyH_r) d9, fun j hj => ?_, fun j hj => ?_, fun hf => ?_, fun hf => ?_⟩
      · simp only [inb_n hl15 (show 15 < 2 ^ 31 by omega), ck_t, nI_clamp (show l < 2 ^ 31 by omega), nm_e1, nI_1]
        rw [o1, ← ec2, a1, bd_s, p1, bv_s]
        have q1 : gI (pI c3 30 l W) 5 9 = gI h 0 37 := by rw [gI_pI, if_neg (by omega)]; exact c9
        have q2 : gI (pI c3 30 l W) 30 l = W := by rw [gI_pI, if_pos ⟨rfl, rfl⟩]
        have q3 : gI (pI c3 30 l W) 39 i = O := by rw [gI_pI, if_neg (by omega)]; exact c39
        simp only [q1, q2, q3]
        have q4 : ∀ y, gI (pI (pI c3 30 l W) 5 9 y) 5 10 = gI h 0 38 := fun y => by rw [gI_pI, if_neg (by decide), gI_pI, if_neg (by omega)]; exact c10
        have q5 : ∀ y, gI (pI (pI c3 30 l W) 5 9 y) 30 l = W := fun y => by rw [gI_pI, if_neg (by omega), gI_pI, if_pos ⟨rfl, rfl⟩]
        have q6 : ∀ y, gI (pI (pI c3 30 l W) 5 9 y) 39 i = O := fun y => by rw [gI_pI, if_neg (by omega), gI_pI, if_neg (by omega)]; exact c39
        simp only [q4, q5, q6]
        rw [← ec5]
        exact d1
      · simp only [inb_n hl15 (show 15 < 2 ^ 31 by omega), ck_t, nI_clamp (show l < 2 ^ 31 by omega), nm_e1, nI_1]
        rw [a2, bd_s, cap, ← eW, m37, m5]
        have q4 : ∀ y, gI (pI h3 0 37 y) 0 38 = gI h 0 38 := fun y => by rw [gI_pI, if_neg (by decide)]; exact m38
        have q5 : ∀ y, gI (pI h3 0 37 y) 5 l = O := fun y => by rw [gI_pI, if_neg (by omega)]; exact m5
        rw [q4, q5, ← eh5]
        exact d2
      · rw [C5, if_neg (fun y => z4 ⟨y.1, by omega⟩), if_neg (fun y => z4 ⟨y.1, by omega⟩), if_neg (fun y => z1 y.1), a3 b j z3 (fun y => z4 ⟨y.1, by omega⟩), s2 b j (fun y => z2 y.1)]
      · rw [M5, if_neg (fun y => z1 y.1), if_neg (by omega), if_neg (by omega), a4 b j (by omega), t4 b j z2 (by omega)]
      · rw [d10 j hj, M5, if_neg (by omega), if_neg (by omega), if_neg (by omega), a4 5 j (by omega), t4 5 j (by decide) (by omega)]
      · rw [d11 j (by omega), C5, if_neg (by omega), if_neg (by omega), if_neg (by omega), a3 39 j (by decide) (by omega), s2 39 j (by omega)]
      · obtain ⟨f1, f2⟩ := d12 hf
        have ht := t2 hf
        refine ⟨?_, fun j => ?_⟩
        · rw [f1, M5, if_neg (by omega), if_neg (by omega), if_neg (by omega), a4 0 21 (by decide), ht]
        · rw [f2 j, M5, if_neg (by omega), if_neg (by omega), if_neg (by omega), a4 10 j (by omega), ht]
      · obtain ⟨f1, f2, f3⟩ := d13 hf
        obtain ⟨u1, u2, u3⟩ := t3 hf
        have r10 : ∀ j, gI h5 10 j = gI hT 10 j := fun j => by rw [M5, if_neg (by omega), if_neg (by omega), if_neg (by omega), a4 10 j (by omega)]
        refine ⟨f1, fun j hj => ?_, fun j j1 j2 => ?_⟩
        · rw [f2 j (by omega), r10, u3 j (by omega)]
        · by_cases w : j = i
          · subst w
            rw [f2 j (by omega), r10, u2, if_pos c, d11 j (by omega), C5, if_neg (by omega), if_neg (by omega), if_neg (by omega), c39, eO]
          · exact f3 j (by omega) j2
    · rw [if_neg c, if_neg c, if_pos rfl]
      simp only [nm_e1, nI_1]
      have H1 : RR (pI hcx 39 i (-1)) M := RR_39 (fun b j z1 _ => by rw [gI_pI, if_neg (fun z => z1 z.1)]) H
      obtain ⟨r', hcE, hE, ME, d1, d2, d3, d4, d5, d6, d7, d8, d9, d10, d11, d12, d13⟩ := ih (i + 1) (pI hcx 39 i (-1)) hT M v (by omega) H1 xT BK eq (fun hf => (t3 hf).1) (by rw [gI_pI, if_neg (by omega), t4 0 37 (by decide) (by decide)]; exact e9) (by rw [gI_pI, if_neg (by omega), t4 0 38 (by decide) (by decide)]; exact e10) n' m' (by omega) (by omega)
      refine ⟨r', hcE, hE, ME, d1, d2, d3, d4, d5, d6, exD1_t (fun b j z1 z2 z3 z4 => ?_) d7, exD2_t (fun b j z1 z2 z3 => t4 b j z2 (by omega)) d8, d9, fun j hj => ?_, fun j hj => ?_, fun hf => ?_, fun hf => ?_⟩
      · rw [gI_pI, if_neg (fun z => z2 z.1)]
      · rw [d10 j hj, t4 5 j (by decide) (by omega)]
      · rw [d11 j (by omega), gI_pI, if_neg (by omega)]
      · obtain ⟨f1, f2⟩ := d12 hf
        have ht := t2 hf
        rw [ht] at f1 f2
        exact ⟨f1, f2⟩
      · obtain ⟨f1, f2, f3⟩ := d13 hf
        obtain ⟨u1, u2, u3⟩ := t3 hf
        refine ⟨f1, fun j hj => ?_, fun j j1 j2 => ?_⟩
        · rw [f2 j (by omega), u3 j (by omega)]
        · by_cases w : j = i
          · subst w
            rw [f2 j (by omega), u2, if_neg c, d11 j (by omega), gI_pI, if_pos ⟨rfl, rfl⟩]
          · exact f3 j (by omega) j2
end MOR
