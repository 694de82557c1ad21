section TNK
variable {hc hm : HS}
theorem insR_mem {x : Nat → Int32} {l j : Nat} : ∀ {R : List Nat}, j ∈ insR x l R ↔ j = l ∨ j ∈ R
  | [] => by simp [insR]
  | a :: r => by
    rw [insR]
    by_cases c : x l < x a
    · rw [if_pos c, List.mem_cons, insR_mem, List.mem_cons]
      constructor
      · rintro (h | h | h)
        · exact Or.inr (Or.inl h)
        · exact Or.inl h
        · exact Or.inr (Or.inr h)
      · rintro (h | h | h)
        · exact Or.inr (Or.inl h)
        · exact Or.inl h
        · exact Or.inr (Or.inr h)
    · rw [if_neg c, List.mem_cons]
theorem insR_len {x : Nat → Int32} {l : Nat} : ∀ {R : List Nat}, (insR x l R).length = R.length + 1
  | [] => rfl
  | a :: r => by
    rw [insR]
    by_cases c : x l < x a
    · rw [if_pos c, List.length_cons, insR_len, List.length_cons]
    · rw [if_neg c, List.length_cons, List.length_cons]
theorem insR_cg {x x' : Nat → Int32} {l : Nat} (hl : x' l = x l) : ∀ {R : List Nat}, (∀ j ∈ R, x' j = x j) → insR x' l R = insR x l R
  | [], _ => rfl
  | a :: r, h => by
    rw [insR, insR, hl, h a List.mem_cons_self, insR_cg hl (fun j hj => h j (List.mem_cons_of_mem _ hj))]
theorem ordR_mem {kd x : Nat → Int32} {j : Nat} : ∀ {n : Nat}, j ∈ ordR kd x n ↔ j < n ∧ kd j = 0
  | 0 => by simp [ordR]
  | n + 1 => by
    rw [ordR]
    by_cases c : kd n = 0
    · rw [if_pos c, insR_mem, ordR_mem]
      constructor
      · rintro (h | ⟨h1, h2⟩)
        · subst h; exact ⟨by omega, c⟩
        · exact ⟨by omega, h2⟩
      · rintro ⟨h1, h2⟩
        by_cases z : j = n
        · exact Or.inl z
        · exact Or.inr ⟨by omega, h2⟩
    · rw [if_neg c, ordR_mem]
      constructor
      · rintro ⟨h1, h2⟩; exact ⟨by omega, h2⟩
      · rintro ⟨h1, h2⟩
        refine ⟨?_, h2⟩
        by_cases z : j = n
        · subst z; exact absurd h2 c
        · omega
theorem ordR_len {kd x : Nat → Int32} : ∀ {n : Nat}, (ordR kd x n).length ≤ n
  | 0 => Nat.le_refl 0
  | n + 1 => by
    have := ordR_len (kd := kd) (x := x) (n := n)
    rw [ordR]
    split
    · rw [insR_len]; omega
    · omega
theorem ordR_cg {kd x kd' x' : Nat → Int32} : ∀ {n : Nat}, (∀ i, i < n → kd' i = kd i ∧ x' i = x i) → ordR kd' x' n = ordR kd x n
  | 0, _ => rfl
  | n + 1, h => by
    rw [ordR, ordR, (h n (by omega)).1, ordR_cg (n := n) (fun i hi => h i (by omega)), insR_cg (h n (by omega)).2 (fun j hj => (h j (by have := (ordR_mem.mp hj).1; omega)).2)]
def holdsL (h : HS) (L : List Nat) : Prop := ∀ k j, L[k]? = some j → gI h 32 k = nI j
theorem placeL {x : Nat → Int32} {tank : Nat} (ht : tank < 15) : ∀ (R : List Nat) (h : HS), (∀ j ∈ R, j < 15) → R.length < 15 → (∀ k, gI h 27 k = x k) → holdsL h R.reverse → ∀ n, R.length < n → ∃ h', fX4_placeTank_5 n (nI tank) (nI R.length) h = some h' ∧ gI h' 2 7 = gI h 2 7 + 1 ∧ (∀ b j, ¬ b = 32 → ¬ (b = 2 ∧ j = 7) → gI h' b j = gI h b j) ∧ holdsL h' (insR x tank R).reverse ∧ (∀ k, R.length < k → gI h' 32 k = gI h 32 k) := by
  have put : ∀ (R : List Nat) (h : HS), R.length < 15 → holdsL h R.reverse → ∃ h', fX4_placeTank_51 (nI tank) (nI R.length) h = some h' ∧ gI h' 2 7 = gI h 2 7 + 1 ∧ (∀ b j, ¬ b = 32 → ¬ (b = 2 ∧ j = 7) → gI h' b j = gI h b j) ∧ holdsL h' (tank :: R).reverse ∧ (∀ k, R.length < k → gI h' 32 k = gI h 32 k) := by
    intro R h hl hh
    unfold fX4_placeTank_51
    rw [inb_n hl (by omega), ck_t, nI_clamp (by omega)]
    simp only [nm_e1]
    refine ⟨_, rfl, ?_, fun b j h1 h2 => ?_, fun k j hk => ?_, fun k hk => ?_⟩
    · rw [gI_pI, if_pos ⟨rfl, rfl⟩, gI_pI, if_neg (by omega)]
    · rw [gI_pI, if_neg h2, gI_pI, if_neg (fun z => h1 z.1)]
    · rw [gI_pI, if_neg (by omega), gI_pI]
      rw [List.reverse_cons] at hk
      by_cases z : k = R.length
      · subst z
        rw [if_pos ⟨rfl, rfl⟩]
        rw [List.getElem?_append_right (by rw [List.length_reverse]; omega), List.length_reverse, Nat.sub_self] at hk
        cases hk
        rfl
      · rw [if_neg (fun y => z y.2)]
        by_cases z2 : k < R.length
        · rw [List.getElem?_append_left (by rw [List.length_reverse]; exact z2)] at hk
          exact hh k j hk
        · rw [List.getElem?_append_right (by rw [List.length_reverse]; omega), List.length_reverse, List.getElem?_eq_none (by simp; omega)] at hk
          cases hk
    · rw [gI_pI, if_neg (by omega), gI_pI, if_neg (by omega)]
  intro R
  induction R with
  | nil =>
    intro h _ hl hx hh n hn
    obtain ⟨n', rfl⟩ := fuel1 hn
    rw [fX4_placeTank_5, show nI ([] : List Nat).length = 0 from nI_0, if_pos (by decide)]
    have := put [] h hl hh
    rw [show nI ([] : List Nat).length = 0 from nI_0] at this
    exact this
  | cons a r ih =>
    intro h hm hl hx hh n hn
    obtain ⟨n', rfl⟩ := fuel1 hn
    rw [List.length_cons] at hl hn
    have ha : a < 15 := hm a List.mem_cons_self
    have ea : gI h 32 r.length = nI a := hh r.length a (by
      rw [List.reverse_cons, List.getElem?_append_right (by rw [List.length_reverse]; omega), List.length_reverse, Nat.sub_self]; rfl)
    rw [fX4_placeTank_5, List.length_cons, if_neg (nI_nle (by omega) (by omega)), nI_pred, inb_n (show r.length < 15 by omega) (by omega), ck_t, nI_clamp (by omega), ea, inb_n ha (by omega), ck_t, nI_clamp (by omega), inb_n ht (by omega), ck_t, nI_clamp (by omega), hx, hx]
    by_cases c : x a ≤ x tank
    · rw [if_pos c, insR, if_neg (Int32.not_lt.mpr c)]
      have := put (a :: r) h (by rw [List.length_cons]; exact hl) hh
      rw [List.length_cons] at this
      exact this
    · rw [if_neg c, insR, if_pos (Int32.not_le.mp c), ck_t, inb_n hl (by omega), ck_t, nI_clamp (by omega), nm_e1, nm_e1, pk_m1]
      have g : ∀ b j, ¬ (b = 32 ∧ j = r.length + 1) → gI (pI h 32 (r.length + 1) (nI a)) b j = gI h b j := fun b j z => by rw [gI_pI, if_neg z]
      obtain ⟨h', a1, a2, a3, a4, a5⟩ := ih (pI h 32 (r.length + 1) (nI a)) (fun j hj => hm j (List.mem_cons_of_mem _ hj)) (by omega) (fun k => by rw [g 27 k (by omega)]; exact hx k) (fun k j hk => by
        have hkl : k < r.length := by
          by_cases z : k < r.length
          · exact z
          · rw [List.getElem?_eq_none (by rw [List.length_reverse]; omega)] at hk; cases hk
        rw [g 32 k (by omega)]
        refine hh k j ?_
        rw [List.reverse_cons, List.getElem?_append_left (by rw [List.length_reverse]; exact hkl)]
        exact hk) n' (by omega)
      refine ⟨h', a1, by rw [a2, g 2 7 (by omega)], fun b j h1 h2 => by rw [a3 b j h1 h2, g b j (fun z => h1 z.1)], fun k j hk => ?_, fun k hk => by rw [a5 k (by omega), g 32 k (by omega)]⟩
      rw [List.reverse_cons] at hk
      have hl2 : (insR x tank r).reverse.length = r.length + 1 := by rw [List.length_reverse, insR_len]
      by_cases z : k < r.length + 1
      · rw [List.getElem?_append_left (by omega)] at hk
        exact a4 k j hk
      · by_cases z2 : k = r.length + 1
        · subst z2
          rw [List.getElem?_append_right (by omega), hl2, Nat.sub_self] at hk
          cases hk
          rw [a5 _ (by omega), gI_pI, if_pos ⟨rfl, rfl⟩]
        · rw [List.getElem?_append_right (by omega), hl2, List.getElem?_eq_none (by simp; omega)] at hk
          cases hk
theorem sL_cg {f g : Nat → Int32} : ∀ {m : Nat}, (∀ j, j < m → g j = f j) → sL g m = sL f m
  | 0, _ => rfl
  | m + 1, h => by rw [sL, sL, h m (by omega), sL_cg (fun j hj => h j (by omega))]
/-- one load more on both sides -/
theorem load_RR {hc' hm' : HS} (H : RR hc hm) (hn : nLd hm < 15) {k x y top v : Int32} (hk : 0 ≤ k ∧ k ≤ 3) (hx : -99 ≤ x ∧ x ≤ 99) (hy : -9 ≤ y ∧ y ≤ 9) (ht : 0 ≤ top ∧ top ≤ 999) (hv : 0 ≤ v ∧ v ≤ top)
    (m0 : gI hm' 0 0 = nI (nLd hm + 1)) (m1 : ∀ j, gI hm' 1 j = if j = nLd hm then k else gI hm 1 j) (m2 : ∀ j, gI hm' 2 j = if j = nLd hm then x else gI hm 2 j) (m3 : ∀ j, gI hm' 3 j = if j = nLd hm then y else gI hm 3 j) (m4 : ∀ j, gI hm' 4 j = if j = nLd hm then top else gI hm 4 j) (m5 : ∀ j, gI hm' 5 j = if j = nLd hm then v else gI hm 5 j) (m32 : ∀ j, gI hm' 32 j = if j = nLd hm then -1 else gI hm 32 j) (mo : ∀ b j, ¬ (b = 0 ∧ (j = 0 ∨ j = 22)) → ¬ b = 1 → ¬ b = 2 → ¬ b = 3 → ¬ b = 4 → ¬ b = 5 → ¬ b = 32 → gI hm' b j = gI hm b j)
    (c0 : gI hc' 2 8 = nI (nLd hm + 1)) (c1 : ∀ j, gI hc' 26 j = if j = nLd hm then k else gI hm 1 j) (c2 : ∀ j, gI hc' 27 j = if j = nLd hm then x else gI hm 2 j) (c3 : ∀ j, gI hc' 28 j = if j = nLd hm then y else gI hm 3 j) (c4 : ∀ j, gI hc' 29 j = if j = nLd hm then top else gI hm 4 j) (c5 : ∀ j, gI hc' 30 j = if j = nLd hm then v else gI hm 5 j) (co : ∀ b j, ¬ (b = 2 ∧ (j = 7 ∨ j = 8)) → ¬ b = 26 → ¬ b = 27 → ¬ b = 28 → ¬ b = 29 → ¬ b = 30 → ¬ b = 32 → gI hc' b j = gI hc b j)
    (A : RA hc' hm') : RR hc' hm' := by
  have h15 := RR_15 H
  have eN : nLd hm' = nLd hm + 1 := by show (gI hm' 0 0).toNatClampNeg = _; rw [m0, nI_clamp (by omega)]
  obtain ⟨⟨h1, h2, h3, h4, h5, h6, h7, h8, h9, h10⟩, ⟨i1, i2, i3, i4, i5⟩, hp⟩ := H
  have co' : ∀ (K : Nat → Nat → Bool), (∀ j, K 26 j = false) → (∀ j, K 27 j = false) → (∀ j, K 28 j = false) → (∀ j, K 29 j = false) → (∀ j, K 30 j = false) → (∀ j, K 32 j = false) → K 2 7 = false → K 2 8 = false → ∀ b j, K b j = true → gI hc' b j = gI hc b j := fun K k1 k2 k3 k4 k5 k6 k7 k8 b j q => co b j (by
      rintro ⟨rfl, rfl | rfl⟩
      · rw [k7] at q; cases q
      · rw [k8] at q; cases q) (by rintro rfl; rw [k1] at q; cases q) (by rintro rfl; rw [k2] at q; cases q) (by rintro rfl; rw [k3] at q; cases q) (by rintro rfl; rw [k4] at q; cases q) (by rintro rfl; rw [k5] at q; cases q) (by rintro rfl; rw [k6] at q; cases q)
  have mo' : ∀ (K : Nat → Nat → Bool), (∀ j, K 1 j = false) → (∀ j, K 2 j = false) → (∀ j, K 3 j = false) → (∀ j, K 4 j = false) → (∀ j, K 5 j = false) → (∀ j, K 32 j = false) → K 0 0 = false → K 0 22 = false → ∀ b j, K b j = true → gI hm' b j = gI hm b j := fun K k1 k2 k3 k4 k5 k6 k7 k8 b j q => mo b j (by
      rintro ⟨rfl, rfl | rfl⟩
      · rw [k7] at q; cases q
      · rw [k8] at q; cases q) (by rintro rfl; rw [k1] at q; cases q) (by rintro rfl; rw [k2] at q; cases q) (by rintro rfl; rw [k3] at q; cases q) (by rintro rfl; rw [k4] at q; cases q) (by rintro rfl; rw [k5] at q; cases q) (by rintro rfl; rw [k6] at q; cases q)
  have r0 := rngI 0 3 hk
  have r1 := rngI (-99) 99 hx
  have r2 := rngI (-9) 9 hy
  have r3 := rngI 0 999 ht
  have r4 : 0 ≤ v.toInt ∧ v.toInt ≤ top.toInt := ⟨by have := i32_le.mp hv.1; rw [i32_z] at this; exact this, i32_le.mp hv.2⟩
  have old : ∀ j, j < nLd hm → gI hm' 1 j = gI hm 1 j ∧ gI hm' 2 j = gI hm 2 j ∧ gI hm' 3 j = gI hm 3 j ∧ gI hm' 4 j = gI hm 4 j ∧ gI hm' 5 j = gI hm 5 j := fun j hj => ⟨by rw [m1, if_neg (by omega)], by rw [m2, if_neg (by omega)], by rw [m3, if_neg (by omega)], by rw [m4, if_neg (by omega)], by rw [m5, if_neg (by omega)]⟩
  have endM : ∀ e, endP hm e → endP hm' e := by
    intro e he
    rcases he with z | ⟨i, z1, z2, z3⟩
    · exact Or.inl z
    · exact Or.inr ⟨i, by omega, z2, by rw [(old i z1).1]; exact z3⟩
  have g23 : ∀ j, gI hm' 23 j = gI hm 23 j := fun j => mo 23 j (by omega) (by decide) (by decide) (by decide) (by decide) (by decide) (by decide)
  refine ⟨⟨?_, ?_, ?_, ?_, ?_, ?_, ?_, ?_, ?_, A⟩, ⟨?_, ?_, ?_, ?_, ?_⟩, ?_⟩
  · exact ⟨c0.trans m0.symm, fun j => (c1 j).trans (m1 j).symm, fun j => (c2 j).trans (m2 j).symm, fun j => (c3 j).trans (m3 j).symm, fun j => (c4 j).trans (m4 j).symm, fun j => (c5 j).trans (m5 j).symm⟩
  · exact RB_cg (co' kcRB (fun _ => rfl) (fun _ => rfl) (fun _ => rfl) (fun _ => rfl) (fun _ => rfl) (fun _ => rfl) rfl rfl) (mo' kmRB (fun _ => rfl) (fun _ => rfl) (fun _ => rfl) (fun _ => rfl) (fun _ => rfl) (fun _ => rfl) rfl rfl) h2
  · exact RT_cg (co' kcRT (fun _ => rfl) (fun _ => rfl) (fun _ => rfl) (fun _ => rfl) (fun _ => rfl) (fun _ => rfl) rfl rfl) (mo' kmRT (fun _ => rfl) (fun _ => rfl) (fun _ => rfl) (fun _ => rfl) (fun _ => rfl) (fun _ => rfl) rfl rfl) h3
  · exact RW_cg (co' kcRW (fun _ => rfl) (fun _ => rfl) (fun _ => rfl) (fun _ => rfl) (fun _ => rfl) (fun _ => rfl) rfl rfl) (mo' kmRW (fun _ => rfl) (fun _ => rfl) (fun _ => rfl) (fun _ => rfl) (fun _ => rfl) (fun _ => rfl) rfl rfl) h4
  · exact RK_cg (co' kcRK (fun _ => rfl) (fun _ => rfl) (fun _ => rfl) (fun _ => rfl) (fun _ => rfl) (fun _ => rfl) rfl rfl) (mo' kmRK (fun _ => rfl) (fun _ => rfl) (fun _ => rfl) (fun _ => rfl) (fun _ => rfl) (fun _ => rfl) rfl rfl) h5
  · exact RP_cg (co' kcRP (fun _ => rfl) (fun _ => rfl) (fun _ => rfl) (fun _ => rfl) (fun _ => rfl) (fun _ => rfl) rfl rfl) (mo' kmRP (fun _ => rfl) (fun _ => rfl) (fun _ => rfl) (fun _ => rfl) (fun _ => rfl) (fun _ => rfl) rfl rfl) h6
  · obtain ⟨q1, q2, q3, q4, q5, q6, ⟨q, hq, eq, q7⟩, gg, hg, eg, q8⟩ := h7
    have cc : ∀ b j, ¬ b = 2 → ¬ b = 26 → ¬ b = 27 → ¬ b = 28 → ¬ b = 29 → ¬ b = 30 → ¬ b = 32 → gI hc' b j = gI hc b j := fun b j z1 z2 z3 z4 z5 z6 z7 => co b j (fun z => z1 z.1) z2 z3 z4 z5 z6 z7
    have mm : ∀ b j, ¬ b = 0 → ¬ b = 1 → ¬ b = 2 → ¬ b = 3 → ¬ b = 4 → ¬ b = 5 → ¬ b = 32 → gI hm' b j = gI hm b j := fun b j z0 z1 z2 z3 z4 z5 z6 => mo b j (fun z => z0 z.1) z1 z2 z3 z4 z5 z6
    refine ⟨?_, ?_, fun j => ?_, fun j => ?_, fun j => ?_, fun j => ?_, ⟨q, hq, ?_, fun t ht => ?_⟩, gg, hg, ?_, fun j hj => ?_⟩
    · rw [cc 8 3 (by decide) (by decide) (by decide) (by decide) (by decide) (by decide) (by decide), mo 0 50 (by decide) (by decide) (by decide) (by decide) (by decide) (by decide) (by decide)]; exact q1
    · rw [cc 8 6 (by decide) (by decide) (by decide) (by decide) (by decide) (by decide) (by decide), mo 0 53 (by decide) (by decide) (by decide) (by decide) (by decide) (by decide) (by decide)]; exact q2
    · rw [cc 59 j (by decide) (by decide) (by decide) (by decide) (by decide) (by decide) (by decide), mm 24 j (by decide) (by decide) (by decide) (by decide) (by decide) (by decide) (by decide)]; exact q3 j
    · rw [cc 60 j (by decide) (by decide) (by decide) (by decide) (by decide) (by decide) (by decide), mm 25 j (by decide) (by decide) (by decide) (by decide) (by decide) (by decide) (by decide)]; exact q4 j
    · rw [cc 61 j (by decide) (by decide) (by decide) (by decide) (by decide) (by decide) (by decide), mm 26 j (by decide) (by decide) (by decide) (by decide) (by decide) (by decide) (by decide)]; exact q5 j
    · rw [cc 62 j (by decide) (by decide) (by decide) (by decide) (by decide) (by decide) (by decide), mm 27 j (by decide) (by decide) (by decide) (by decide) (by decide) (by decide) (by decide)]; exact q6 j
    · rw [mo 0 50 (by decide) (by decide) (by decide) (by decide) (by decide) (by decide) (by decide)]; exact eq
    · obtain ⟨m, hm16, em, o1, o2⟩ := q7 t ht
      have tk : ∀ j, j < m → tOK hm' t j := fun j hj => by
        obtain ⟨s1, ⟨a, s2, s3⟩, s4⟩ := o1 j hj
        unfold tOK tS tA tO at *
        rw [g23, g23, g23]
        exact ⟨s1, ⟨a, by omega, s3⟩, fun z => by obtain ⟨b, y1, y2, y3⟩ := s4 z; exact ⟨b, by omega, y2, y3⟩⟩
      have cw : ∀ (w a : Nat), a < nLd hm → cW hm' w a = cW hm w a := fun w a ha => by
        unfold cW
        rw [(old a ha).2.1, (old a ha).2.2.1]
      have rM : rowMo hc' t = rowMo hc t := by
        unfold rowMo
        rw [show gI hc' 46 = gI hc 46 from funext fun j => cc 46 j (by decide) (by decide) (by decide) (by decide) (by decide) (by decide) (by decide), show gI hc' 47 = gI hc 47 from funext fun j => cc 47 j (by decide) (by decide) (by decide) (by decide) (by decide) (by decide) (by decide), show gI hc' 48 = gI hc 48 from funext fun j => cc 48 j (by decide) (by decide) (by decide) (by decide) (by decide) (by decide) (by decide), show gI hc' 49 = gI hc 49 from funext fun j => cc 49 j (by decide) (by decide) (by decide) (by decide) (by decide) (by decide) (by decide), show gI hc' 50 = gI hc 50 from funext fun j => cc 50 j (by decide) (by decide) (by decide) (by decide) (by decide) (by decide) (by decide), show gI hc' 51 = gI hc 51 from funext fun j => cc 51 j (by decide) (by decide) (by decide) (by decide) (by decide) (by decide) (by decide)]
      have rH : rowHo hc' t = rowHo hc t := by
        unfold rowHo
        rw [show gI hc' 53 = gI hc 53 from funext fun j => cc 53 j (by decide) (by decide) (by decide) (by decide) (by decide) (by decide) (by decide), show gI hc' 54 = gI hc 54 from funext fun j => cc 54 j (by decide) (by decide) (by decide) (by decide) (by decide) (by decide) (by decide), show gI hc' 55 = gI hc 55 from funext fun j => cc 55 j (by decide) (by decide) (by decide) (by decide) (by decide) (by decide) (by decide), show gI hc' 56 = gI hc 56 from funext fun j => cc 56 j (by decide) (by decide) (by decide) (by decide) (by decide) (by decide) (by decide), show gI hc' 57 = gI hc 57 from funext fun j => cc 57 j (by decide) (by decide) (by decide) (by decide) (by decide) (by decide) (by decide), show gI hc' 58 = gI hc 58 from funext fun j => cc 58 j (by decide) (by decide) (by decide) (by decide) (by decide) (by decide) (by decide)]
      refine ⟨m, hm16, by rw [mm 22 t (by decide) (by decide) (by decide) (by decide) (by decide) (by decide) (by decide)]; exact em, tk, fun w hw => ?_⟩
      rw [rM, rH, (o2 w hw).1, (o2 w hw).2]
      refine ⟨(sL_cg (fun j hj => ?_)).symm, (sL_cg (fun j hj => ?_)).symm⟩
      · obtain ⟨s1, ⟨a, s2, s3⟩, s4⟩ := o1 j hj
        unfold moF
        have e1 : tS hm' t j = tS hm t j := g23 _
        have e2 : tA hm' t j = tA hm t j := g23 _
        have e4 : tV hm' t j = tV hm t j := g23 _
        rw [e1, e2, e4, s3, nI_clamp (by omega), cw w a s2]
      · obtain ⟨s1, ⟨a, s2, s3⟩, s4⟩ := o1 j hj
        unfold hoF
        have e1 : tS hm' t j = tS hm t j := g23 _
        have e2 : tA hm' t j = tA hm t j := g23 _
        have e3 : tO hm' t j = tO hm t j := g23 _
        have e4 : tV hm' t j = tV hm t j := g23 _
        rw [e1, e2, e3, e4, s3, nI_clamp (by omega), cw w a s2]
        by_cases z : tS hm t j = 118
        · obtain ⟨b, y1, y2, y3⟩ := s4 z
          rw [y2, nI_clamp (by omega), cw w b y1]
        · rw [if_neg z, if_neg z]
    · rw [mo 0 53 (by decide) (by decide) (by decide) (by decide) (by decide) (by decide) (by decide)]; exact eg
    · rw [mm 24 j (by decide) (by decide) (by decide) (by decide) (by decide) (by decide) (by decide), mm 25 j (by decide) (by decide) (by decide) (by decide) (by decide) (by decide) (by decide), mm 26 j (by decide) (by decide) (by decide) (by decide) (by decide) (by decide) (by decide)]
      exact q8 j hj
  · obtain ⟨q1, q2, q3⟩ := h8
    have e30 : ∀ j, gI hm' 30 j = gI hm 30 j := fun j => mo 30 j (by omega) (by decide) (by decide) (by decide) (by decide) (by decide) (by decide)
    have e31 : ∀ j, gI hm' 31 j = gI hm 31 j := fun j => mo 31 j (by omega) (by decide) (by decide) (by decide) (by decide) (by decide) (by decide)
    refine ⟨fun j => ?_, fun j => ?_, fun j hj hne => ?_⟩
    · rw [e30, co 63 j (by omega) (by decide) (by decide) (by decide) (by decide) (by decide) (by decide)]; exact q1 j
    · rw [e31, co 64 j (by omega) (by decide) (by decide) (by decide) (by decide) (by decide) (by decide)]; exact q2 j
    · rw [e30] at hne
      have hjn : j < nLd hm := by
        by_cases z : nLd hm ≤ j
        · exact absurd (i4.2.1 j hj z) hne
        · omega
      rw [co 65 j (by omega) (by decide) (by decide) (by decide) (by decide) (by decide) (by decide), m32, if_neg (by omega)]
      exact q3 j hj hne
  · exact RE_cg (co' kcRE (fun _ => rfl) (fun _ => rfl) (fun _ => rfl) (fun _ => rfl) (fun _ => rfl) (fun _ => rfl) rfl rfl) (mo' kmRE (fun _ => rfl) (fun _ => rfl) (fun _ => rfl) (fun _ => rfl) (fun _ => rfl) (fun _ => rfl) rfl rfl) h9
  · refine ⟨⟨nLd hm + 1, by omega, m0⟩, fun i hi => ?_⟩
    rw [eN] at hi
    by_cases z : i = nLd hm
    · rw [m1, m2, m3, m4, m5, if_pos z, if_pos z, if_pos z, if_pos z, if_pos z]
      exact ⟨r0, r1, r2, r4.1, r4.2, r3.2⟩
    · obtain ⟨o1, o2, o3, o4, o5⟩ := old i (by omega)
      rw [o1, o2, o3, o4, o5]
      exact i1.2 i (by omega)
  · exact IB_cg (mo' kmIB (fun _ => rfl) (fun _ => rfl) (fun _ => rfl) (fun _ => rfl) (fun _ => rfl) (fun _ => rfl) rfl rfl) i2
  · obtain ⟨q, hq, eq, q1⟩ := i3
    refine ⟨q, hq, by rw [mo 0 39 (by decide) (by decide) (by decide) (by decide) (by decide) (by decide) (by decide)]; exact eq, fun p hp => ?_⟩
    obtain ⟨y1, y2, y3, y4, y5⟩ := q1 p hp
    rw [mo 17 p (by omega) (by decide) (by decide) (by decide) (by decide) (by decide) (by decide), mo 18 p (by omega) (by decide) (by decide) (by decide) (by decide) (by decide) (by decide), mo 19 p (by omega) (by decide) (by decide) (by decide) (by decide) (by decide) (by decide), mo 20 p (by omega) (by decide) (by decide) (by decide) (by decide) (by decide) (by decide)]
    exact ⟨endM _ y1, endM _ y2, y3, y4, y5⟩
  · obtain ⟨q1, q2, q3⟩ := i4
    have e30 : ∀ j, gI hm' 30 j = gI hm 30 j := fun j => mo 30 j (by omega) (by decide) (by decide) (by decide) (by decide) (by decide) (by decide)
    have e31 : ∀ j, gI hm' 31 j = gI hm 31 j := fun j => mo 31 j (by omega) (by decide) (by decide) (by decide) (by decide) (by decide) (by decide)
    refine ⟨fun j hj => by rw [e30, e31]; exact q1 j hj, fun j hj hl => by rw [e30]; exact q2 j hj (by omega), fun j hj => ?_⟩
    rw [eN] at hj ⊢
    by_cases z : j = nLd hm
    · rw [m32, if_pos z]; exact Or.inl rfl
    · rw [m32, if_neg z]
      rcases q3 j (by omega) with y | ⟨l, y1, y2, y3⟩
      · exact Or.inl y
      · exact Or.inr ⟨l, by omega, y2, y3⟩
  · intro i hi hne
    have e33 : gI hm' 33 i = gI hm 33 i := mo 33 i (by omega) (by decide) (by decide) (by decide) (by decide) (by decide) (by decide)
    rw [e33] at hne
    obtain ⟨y1, m, y2, y3, y4⟩ := i5 i hi hne
    rw [mo 36 i (by omega) (by decide) (by decide) (by decide) (by decide) (by decide) (by decide), mo 34 i (by omega) (by decide) (by decide) (by decide) (by decide) (by decide) (by decide)]
    refine ⟨y1, m, by omega, y3, fun j hj => ?_⟩
    rw [mo 35 _ (by omega) (by decide) (by decide) (by decide) (by decide) (by decide) (by decide), (old j (by omega)).2.2.2.1]
    exact y4 j hj
  · rw [mo 0 24 (by decide) (by decide) (by decide) (by decide) (by decide) (by decide) (by decide)]
    exact hp
end TNK
