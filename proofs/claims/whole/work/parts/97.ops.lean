section GRO2
variable {hc hm : HS}
theorem p24 {h : HS} {a k : Nat} {v : Int32} (ha : ¬ (a = 0 ∧ k = 24)) : pI (pI h a k v) 0 24 0 = pI (pI h 0 24 0) a k v := pI_comm ha
theorem g24 {h : HS} {b j : Nat} (hb : ¬ (b = 0 ∧ j = 24)) : gI (pI h 0 24 0) b j = gI h b j := by rw [gI_pI, if_neg hb]
/-- both empty the fullest first -/
theorem gr_loop {L : List Nat} (V : Int32) : ∀ (k r M : Nat) (hcx h : HS) (v : Int32), r + k = L.length → RR hcx (pI h 0 24 0) → tanksM (pI h 0 24 0) = L → M < 2 ^ 15 → (L.filter (fun j => !M.testBit j)).length + r ≤ L.length → 0 ≤ v.toInt → v.toInt ≤ allL (fun j => (gI h 5 j).toInt) L → (∀ j ∈ L, M.testBit j = true → 0 < v.toInt → gI h 5 j = 0) → ∀ n m, k < n → k < m → ∃ hcE hE, fX4_emptyFullestFirst_4 n v (nI r) hcx = some hcE ∧ fX12_ground_49 m V v (nI M) h = fX12_ground_176 V 0 hE ∧ RR hcE (pI hE 0 24 0) ∧ onlyH hcx hcE 30 ∧ onlyH h hE 5 := by
  intro k
  induction k with
  | zero =>
    intro r M hcx h v hr H eL hM cnt v0 vs gone n m hn hm1
    obtain ⟨n', rfl⟩ := fuel1 hn
    obtain ⟨m', rfl⟩ := fuel1 hm1
    obtain ⟨A1, A2, A3, A4⟩ := RR_hold H
    obtain ⟨t15, tr⟩ := tank_rng H.2.1.1
    rw [eL] at A1 A2 A3 A4 t15 tr
    have hv : v = 0 := by
      have : v.toInt ≤ 0 := by
        by_cases z : v.toInt ≤ 0
        · exact z
        · have f0 : L.filter (fun j => !M.testBit j) = [] := List.eq_nil_of_length_eq_zero (by omega)
          have := allL_z (f := fun j => (gI h 5 j).toInt) (L := L) (fun j hj => by
            have : gI h 5 j = 0 := gone j hj (by
              cases w : M.testBit j with
              | true => rfl
              | false =>
                have : j ∈ L.filter (fun j => !M.testBit j) := List.mem_filter.mpr ⟨hj, by rw [w]; rfl⟩
                rw [f0] at this; cases this) (by omega)
            show (gI h 5 j).toInt = 0
            rw [this, i32_z])
          omega
      exact Int32.toInt_inj.mp (by rw [i32_z]; omega)
    subst hv
    refine ⟨hcx, h, ?_, ?_, H, onlyH_r, onlyH_r⟩
    · rw [fX4_emptyFullestFirst_4, A2, if_pos (nI_le (by omega) (by omega))]
    · rw [fX12_ground_49, if_pos (by decide)]
  | succ k ih =>
    intro r M hcx h v hr H eL hM cnt v0 vs gone n m hn hm1
    obtain ⟨n', rfl⟩ := fuel1 hn
    obtain ⟨m', rfl⟩ := fuel1 hm1
    obtain ⟨A1, A2, A3, A4⟩ := RR_hold H
    obtain ⟨t15, tr⟩ := tank_rng H.2.1.1
    have n15 := RR_15 H
    rw [eL] at A1 A2 A3 A4 t15 tr
    by_cases c : v ≤ 0
    · have hv : v = 0 := Int32.toInt_inj.mp (by have := i32_le.mp c; rw [i32_z] at this ⊢; omega)
      subst hv
      refine ⟨hcx, h, ?_, ?_, H, onlyH_r, onlyH_r⟩
      · rw [fX4_emptyFullestFirst_4, if_pos c, ite_self]
      · rw [fX12_ground_49, if_pos c]
    · have vp : 0 < v.toInt := by
        by_cases z : 0 < v.toInt
        · exact z
        · exact absurd (i32_le.mpr (by rw [i32_z]; omega)) c
      have tr5 : ∀ j ∈ L, j < 15 ∧ j < nLd (pI h 0 24 0) ∧ 0 ≤ (gI h 5 j).toInt ∧ (gI h 5 j).toInt ≤ 999 := fun j hj => by
        obtain ⟨y1, y2, -, -, y3⟩ := tr j hj
        rw [g24 (by omega)] at y3
        exact ⟨y1, y2, y3⟩
      have e5 : ∀ j, gI hcx 30 j = gI h 5 j := fun j => by rw [H.1.1.2.2.2.2.2 j, g24 (by omega)]
      obtain ⟨p', a1, a2, a3⟩ := e_full t15 (by omega) A2 (fun j hj => (tr5 j hj).1) A1
      have mx : 0 < (gI h 5 p').toInt := by
        by_cases z : 0 < (gI h 5 p').toInt
        · exact z
        · have := allL_z (f := fun j => (gI h 5 j).toInt) (L := L) (fun j hj => by
            have y1 := (a3 j hj).1
            rw [e5, e5] at y1
            have := (tr5 j hj).2.2
            show (gI h 5 j).toInt = 0
            omega)
          omega
      have nN : nLd (pI h 0 24 0) ≤ 15 := n15
      have e0 : gI h 0 0 = nI (nLd (pI h 0 24 0)) := by rw [← RR_eM H, g24 (by decide)]
      have cq : ∀ j, cnd h (nLd (pI h 0 24 0)) M j ↔ j ∈ L ∧ M.testBit j = false := fun j => by
        rw [A4 j, g24 (by omega)]
        unfold cnd
        constructor
        · rintro ⟨y1, y2, y3⟩; exact ⟨⟨y1, y2⟩, y3⟩
        · rintro ⟨⟨y1, y2⟩, y3⟩; exact ⟨y1, y2, y3⟩
      have ng : M.testBit p' = false := by
        cases w : M.testBit p' with
        | false => rfl
        | true => have := gone p' a2 w vp; rw [this, i32_z] at mx; omega
      have cp' := (cq p').mpr ⟨a2, ng⟩
      rcases l_g60 nN hM e0 (fX12_ground_49 m') V v (nLd (pI h 0 24 0)) 0 (-1) (by omega) (Or.inl ⟨rfl, fun j hj => by have := hj.1; omega⟩) FU (FU_gt (by omega)) with ⟨b1, -⟩ | ⟨p, ⟨b1, b2⟩, b3⟩
      · exact absurd cp' (b1 p')
      · obtain ⟨pL, pb⟩ := (cq p).mp b1
        have pp : p = p' := by
          have y1 := b2 p' cp'
          have y2 := a3 p pL
          rw [e5, e5] at y2
          have y3 : gI h 5 p = gI h 5 p' := Int32.toInt_inj.mp (by omega)
          have y4 := y2.2 y3
          by_cases z : p' < p
          · have := y1.2 z; rw [y3] at this; omega
          · omega
        subst pp
        have hp15 := (tr5 p pL).1
        have hpr := (tr5 p pL).2.2
        obtain ⟨t, et⟩ : ∃ t, t = imin v (gI h 5 p) := ⟨_, rfl⟩
        have tI : t.toInt = min v.toInt (gI h 5 p).toInt := by rw [et, imin_toInt]
        have vI : (v - t).toInt = v.toInt - t.toInt := Jvm.Kit.i32_sub (by have := v.toInt_lt; omega) (by have := v.toInt_lt; omega)
        have hI : (gI h 5 p - t).toInt = (gI h 5 p).toInt - t.toInt := Jvm.Kit.i32_sub (by have := v.toInt_lt; omega) (by have := v.toInt_lt; omega)
        rw [← et] at b3
        have H' : RR (pI hcx 30 p (gI h 5 p - t)) (pI (pI h 5 p (gI h 5 p - t)) 0 24 0) := by
          rw [p24 (by omega)]
          refine RR_has2 (onlyH_p onlyH_r) (onlyH_p onlyH_r) (fun j => ?_) (fun i hi => ?_) H
          · rw [gI_pI, gI_pI]
            by_cases z : j = p
            · rw [if_pos ⟨rfl, z⟩, if_pos ⟨rfl, z⟩]
            · rw [if_neg (fun q => z q.2), if_neg (fun q => z q.2), H.1.1.2.2.2.2.2 j]
          · obtain ⟨-, -, -, u1, u2, u3⟩ := H.2.1.1.2 i hi
            rw [gI_pI]
            by_cases z : i = p
            · rw [if_pos ⟨rfl, z⟩, hI]
              rw [z, g24 (by omega)] at u1 u2
              rw [z]
              omega
            · rw [if_neg (fun q => z q.2)]; exact ⟨u1, u2⟩
        have eL' : tanksM (pI (pI h 5 p (gI h 5 p - t)) 0 24 0) = L := by
          rw [← eL, p24 (by omega)]
          exact tanksM_cg (by rw [gI_pI, if_neg (by omega)]) (fun j => by rw [gI_pI, if_neg (by omega)]) (fun j => by rw [gI_pI, if_neg (by omega)])
        have M' : M ||| 2 ^ p < 2 ^ 15 := Nat.or_lt_two_pow hM (Nat.pow_lt_pow_right (by omega) hp15)
        have g5 : ∀ j, gI (pI h 5 p (gI h 5 p - t)) 5 j = if j = p then gI h 5 p - t else gI h 5 j := fun j => by
          rw [gI_pI]
          by_cases z : j = p
          · rw [if_pos ⟨rfl, z⟩, if_pos z]
          · rw [if_neg (fun q => z q.2), if_neg z]
        have cl := cnt_lt (q := fun j => !(M ||| 2 ^ p).testBit j) (p := fun j => !M.testBit j) (fun j hj => by
          rw [or_bit] at hj
          cases w : M.testBit j with
          | false => rfl
          | true => rw [w] at hj; cases hj) (x := p) (by show (!M.testBit p) = true; rw [pb]; rfl) (by show (!(M ||| 2 ^ p).testBit p) = false; rw [or_bit, decide_eq_true rfl, Bool.or_true]; rfl) pL
        have sm := allL_set (f := fun j => (gI h 5 j).toInt) (g := fun j => (gI (pI h 5 p (gI h 5 p - t)) 5 j).toInt) (p := p) (fun j hj => by show (gI (pI h 5 p (gI h 5 p - t)) 5 j).toInt = (gI h 5 j).toInt; rw [g5, if_neg hj]) (L := L) (eL ▸ tanks_nd _) pL
        have sp : (gI (pI h 5 p (gI h 5 p - t)) 5 p).toInt = (gI h 5 p).toInt - t.toInt := by rw [g5, if_pos rfl, hI]
        simp only [sp] at sm
        obtain ⟨hcE, hE, d1, d2, d3, d4, d5⟩ := ih (r + 1) (M ||| 2 ^ p) _ _ (v - t) (by omega) H' eL' M' (by omega) (by omega) (by omega) (fun j hj w wp => by
          rw [g5]
          by_cases z : j = p
          · rw [if_pos z]
            exact Int32.toInt_inj.mp (by rw [hI, i32_z]; omega)
          · rw [if_neg z]
            refine gone j hj ?_ vp
            rw [or_bit, decide_eq_false (fun y => z y.symm), Bool.or_false] at w
            exact w) n' m' (by omega) (by omega)
        refine ⟨hcE, hE, ?_, ?_, d3, onlyH_t (onlyH_p onlyH_r) d4, onlyH_t (onlyH_p onlyH_r) d5⟩
        · rw [fX4_emptyFullestFirst_4, A2, if_neg (nI_ge (by omega) (by omega)), if_neg c, a1, bd_s]
          simp only [inb_n hp15 (show 15 < 2 ^ 31 by omega), ck_t, nI_clamp (show p < 2 ^ 31 by omega), nm_e1, nI_1, e5, ← et]
          exact d1
        · rw [fX12_ground_49, if_neg c, ← nI_0, b3]
          exact d2
/-- the model alone, where there is not enough -/
theorem gr_fail {L : List Nat} {N : Nat} (hN : N ≤ 15) (nd : L.Nodup) (V : Int32) : ∀ (k M : Nat) (h : HS) (v : Int32), (L.filter (fun j => !M.testBit j)).length ≤ k → gI h 0 0 = nI N → (∀ j, j ∈ L ↔ j < N ∧ gI h 1 j = 0) → (∀ j ∈ L, 0 ≤ (gI h 5 j).toInt ∧ (gI h 5 j).toInt ≤ 999) → M < 2 ^ 15 → allL (fun j => (gI h 5 j).toInt) L < v.toInt → ∀ m, k < m → ∃ v' hE, fX12_ground_49 m V v (nI M) h = fX12_ground_225 V v' hE ∧ 0 < v'.toInt ∧ onlyH h hE 5 ∧ ∀ j, ¬ j < 15 → gI hE 5 j = gI h 5 j := by
  intro k
  induction k with
  | zero =>
    intro M h v cnt e0 mL rg hM hs m hm1
    obtain ⟨m', rfl⟩ := fuel1 hm1
    have a0 := allL_nn (m := fun j => (gI h 5 j).toInt) (L := L) (fun j hj => (rg j hj).1)
    have vp : 0 < v.toInt := by omega
    have nv : ¬ v ≤ 0 := fun z => by have := i32_le.mp z; rw [i32_z] at this; omega
    have nv0 : ¬ v = 0 := fun z => by rw [z, i32_z] at vp; omega
    refine ⟨v, h, ?_, vp, onlyH_r, fun _ _ => rfl⟩
    have f0 : L.filter (fun j => !M.testBit j) = [] := List.eq_nil_of_length_eq_zero (by omega)
    rcases l_g60 hN hM e0 (fX12_ground_49 m') V v N 0 (-1) (by omega) (Or.inl ⟨rfl, fun j hj => by have := hj.1; omega⟩) FU (FU_gt (by omega)) with ⟨-, b1⟩ | ⟨p, ⟨b1, -⟩, -⟩
    · rw [fX12_ground_49, if_neg nv, ← nI_0, b1]
      unfold fX12_ground_176
      rw [if_neg nv0]
    · have : p ∈ L.filter (fun j => !M.testBit j) := List.mem_filter.mpr ⟨(mL p).mpr ⟨b1.1, b1.2.1⟩, by rw [b1.2.2]; rfl⟩
      rw [f0] at this; cases this
  | succ k ih =>
    intro M h v cnt e0 mL rg hM hs m hm1
    obtain ⟨m', rfl⟩ := fuel1 hm1
    have a0 := allL_nn (m := fun j => (gI h 5 j).toInt) (L := L) (fun j hj => (rg j hj).1)
    have vp : 0 < v.toInt := by omega
    have nv : ¬ v ≤ 0 := fun z => by have := i32_le.mp z; rw [i32_z] at this; omega
    have nv0 : ¬ v = 0 := fun z => by rw [z, i32_z] at vp; omega
    rcases l_g60 hN hM e0 (fX12_ground_49 m') V v N 0 (-1) (by omega) (Or.inl ⟨rfl, fun j hj => by have := hj.1; omega⟩) FU (FU_gt (by omega)) with ⟨-, b1⟩ | ⟨p, ⟨b1, -⟩, b3⟩
    · refine ⟨v, h, ?_, vp, onlyH_r, fun _ _ => rfl⟩
      rw [fX12_ground_49, if_neg nv, ← nI_0, b1]
      unfold fX12_ground_176
      rw [if_neg nv0]
    · have pL : p ∈ L := (mL p).mpr ⟨b1.1, b1.2.1⟩
      have pb := b1.2.2
      have hp15 : p < 15 := by have := b1.1; omega
      have hpr := rg p pL
      obtain ⟨t, et⟩ : ∃ t, t = imin v (gI h 5 p) := ⟨_, rfl⟩
      have tI : t.toInt = min v.toInt (gI h 5 p).toInt := by rw [et, imin_toInt]
      have vI : (v - t).toInt = v.toInt - t.toInt := Jvm.Kit.i32_sub (by have := v.toInt_lt; omega) (by have := v.toInt_lt; omega)
      have hI : (gI h 5 p - t).toInt = (gI h 5 p).toInt - t.toInt := Jvm.Kit.i32_sub (by have := v.toInt_lt; omega) (by have := v.toInt_lt; omega)
      rw [← et] at b3
      have g5 : ∀ j, gI (pI h 5 p (gI h 5 p - t)) 5 j = if j = p then gI h 5 p - t else gI h 5 j := fun j => by
        rw [gI_pI]
        by_cases z : j = p
        · rw [if_pos ⟨rfl, z⟩, if_pos z]
        · rw [if_neg (fun q => z q.2), if_neg z]
      have cl := cnt_lt (q := fun j => !(M ||| 2 ^ p).testBit j) (p := fun j => !M.testBit j) (fun j hj => by
        rw [or_bit] at hj
        cases w : M.testBit j with
        | false => rfl
        | true => rw [w] at hj; cases hj) (x := p) (by show (!M.testBit p) = true; rw [pb]; rfl) (by show (!(M ||| 2 ^ p).testBit p) = false; rw [or_bit, decide_eq_true rfl, Bool.or_true]; rfl) pL
      have sm := allL_set (f := fun j => (gI h 5 j).toInt) (g := fun j => (gI (pI h 5 p (gI h 5 p - t)) 5 j).toInt) (p := p) (fun j hj => by show (gI (pI h 5 p (gI h 5 p - t)) 5 j).toInt = (gI h 5 j).toInt; rw [g5, if_neg hj]) (L := L) nd pL
      have sp : (gI (pI h 5 p (gI h 5 p - t)) 5 p).toInt = (gI h 5 p).toInt - t.toInt := by rw [g5, if_pos rfl, hI]
      simp only [sp] at sm
      obtain ⟨v', hE, d1, d2, d3, d4⟩ := ih (M ||| 2 ^ p) (pI h 5 p (gI h 5 p - t)) (v - t) (by omega) (by rw [gI_pI, if_neg (by omega)]; exact e0) (fun j => by rw [gI_pI, if_neg (by omega)]; exact mL j) (fun j hj => by
        rw [g5]
        by_cases z : j = p
        · rw [if_pos z, hI]; omega
        · rw [if_neg z]; exact rg j hj) (Nat.or_lt_two_pow hM (Nat.pow_lt_pow_right (by omega) hp15)) (by omega) m' (by omega)
      refine ⟨v', hE, ?_, d2, onlyH_t (onlyH_p onlyH_r) d3, fun j hj => by rw [d4 j hj, g5, if_neg (by omega)]⟩
      rw [fX12_ground_49, if_neg nv, ← nI_0, b3]
      exact d1
theorem e_tellM {h : HS} {t : Nat} (e : gI h 0 21 = nI t) (ht : t < 24) (v : Int32) : fX12_tell v h = some (pI (pI h 10 t v) 0 21 (nI (t + 1))) := by
  unfold fX12_tell
  rw [e, inb_n ht (by omega), ck_t, nI_clamp (by omega), nm_e1, nm_e1, gI_pI, if_neg (by omega), e, nI_1]
/-- the rows of both -/
theorem gr_row (V : Int32) : ∀ (k i t : Nat) (hcx h : HS), RR hcx (pI h 0 24 0) → i + k = nLd (pI h 0 24 0) → t ≤ i → gI h 0 21 = nI t → ∀ n m, k < n → k < m → ∃ hcE hE, fX11_ground_76 n V (nI i) hcx = bv (fX4_restore hcE) (fun h17 => some (V, h17)) ∧ fX12_ground_189 m V 0 (nI i) h = fX12_ground_225 V 0 hE ∧ RR hcE (pI hE 0 24 0) ∧ (∀ b j, ¬ b = 4 → ¬ b = 35 → gI hcE b j = gI hcx b j) ∧ (∀ b j, ¬ b = 10 → ¬ (b = 0 ∧ j = 21) → gI hE b j = gI h b j) := by
  intro k
  induction k with
  | zero =>
    intro i t hcx h H hi ht et n m hn hm1
    have n15 := RR_15 H
    obtain ⟨n', rfl⟩ := fuel1 hn
    obtain ⟨m', rfl⟩ := fuel1 hm1
    have e0 : gI h 0 0 = nI (nLd (pI h 0 24 0)) := by rw [← RR_eM H, g24 (by decide)]
    refine ⟨hcx, h, ?_, ?_, H, fun _ _ _ _ => rfl, fun _ _ _ _ => rfl⟩
    · rw [fX11_ground_76, RR_eC H, if_pos (nI_le (by omega) (by omega))]
    · rw [fX12_ground_189, e0, if_pos (nI_le (by omega) (by omega))]
  | succ k ih =>
    intro i t hcx h H hi ht et n m hn hm1
    have n15 := RR_15 H
    obtain ⟨n', rfl⟩ := fuel1 hn
    obtain ⟨m', rfl⟩ := fuel1 hm1
    have e0 : gI h 0 0 = nI (nLd (pI h 0 24 0)) := by rw [← RR_eM H, g24 (by decide)]
    rw [fX11_ground_76, RR_eC H, if_neg (nI_ge (by omega) (by omega)), fX12_ground_189, e0, if_neg (nI_ge (by omega) (by omega))]
    simp only [inb_n (show i < 15 by omega) (show 15 < 2 ^ 31 by omega), ck_t, nI_clamp (show i < 2 ^ 31 by omega), nm_e1, nI_1, show gI hcx 26 i = gI h 1 i by rw [H.1.1.2.1 i, g24 (by omega)], show gI hcx 30 i = gI h 5 i by rw [H.1.1.2.2.2.2.2 i, g24 (by omega)]]
    by_cases c : gI h 1 i = 0
    · rw [if_pos c, if_pos c]
      obtain ⟨r1, -, r3, -⟩ := row1 H (t := t) (by rw [g24 (by decide)]; exact et) (by omega) (gI h 5 i)
      have tm := e_tellM et (by omega) (gI h 5 i)
      have H' : RR (pI (pI hcx 35 t (gI h 5 i)) 4 1 (nI (t + 1))) (pI (pI (pI h 10 t (gI h 5 i)) 0 21 (nI (t + 1))) 0 24 0) := by
        rw [p24 (by omega), p24 (by omega)]; exact r3
      rw [r1, bv_s, tm, bv_s]
      obtain ⟨hcE, hE, d1, d2, d3, d4, d5⟩ := ih (i + 1) (t + 1) _ _ H' (by
        rw [show nLd (pI (pI (pI h 10 t (gI h 5 i)) 0 21 (nI (t + 1))) 0 24 0) = nLd (pI h 0 24 0) by
          show (gI _ 0 0).toNatClampNeg = (gI _ 0 0).toNatClampNeg
          rw [g24 (by decide), g24 (by decide), gI_pI, if_neg (by decide), gI_pI, if_neg (by omega)]]
        omega) (by omega) (by rw [gI_pI, if_pos ⟨rfl, rfl⟩]) n' m' (by omega) (by omega)
      refine ⟨hcE, hE, d1, d2, d3, fun b j z1 z2 => ?_, fun b j z1 z2 => ?_⟩
      · rw [d4 b j z1 z2, gI_pI, if_neg (fun q => z1 q.1), gI_pI, if_neg (fun q => z2 q.1)]
      · rw [d5 b j z1 z2, gI_pI, if_neg z2, gI_pI, if_neg (fun q => z1 q.1)]
    · rw [if_neg c, if_neg c]
      exact ih (i + 1) t hcx h H (by omega) (by omega) et n' m' (by omega) (by omega)
end GRO2
