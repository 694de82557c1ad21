section REN
variable {hc hm : HS}
theorem l_can22 {h : HS} {L : List Nat} {d : Int32} (h15 : L.length ≤ 15) (e45 : gI h 0 45 = nI L.length) (hL : ∀ j ∈ L, j < 15) (hh : holdsM h L) : ∀ (suf pre : List Nat) (v2 v3 v4 : Int32), L = pre ++ suf → ∀ n, suf.length < n → fX12_canReach_22 n v2 v3 v4 (nI pre.length) h = fX12_canReach_122 FU (v2 + sumL (gI h 4) suf) (v3 - sumL (gI h 5) suf) (v4 - sumL (fun j => gI h 2 j * gI h 5 j) suf) (imax 0 (-(gI h 8 0) - (v3 - sumL (gI h 5) suf))) (pI (pI h 0 46 (-1)) 0 47 (-1)) := by
  intro suf
  induction suf with
  | nil =>
    intro pre v2 v3 v4 hp n hn
    obtain ⟨m, rfl⟩ := fuel1 hn
    rw [List.append_nil] at hp
    rw [fX12_canReach_22, e45, if_pos (nI_le (by rw [← hp]; omega) (by rw [← hp]; omega))]
    simp only [nm_e1, sumL, Int32.add_zero, Int32.sub_zero]
    rfl
  | cons j r ih =>
    intro pre v2 v3 v4 hp n hn
    obtain ⟨m, rfl⟩ := fuel1 hn
    have hpl : pre.length < L.length := by rw [hp, List.length_append, List.length_cons]; omega
    have eg := hh pre.length j (by rw [hp, List.getElem?_append_right (Nat.le_refl _), Nat.sub_self]; rfl)
    have j15 := hL j (by rw [hp]; exact List.mem_append_right _ List.mem_cons_self)
    rw [List.length_cons] at hn
    have hpl2 : (pre ++ [j]).length = pre.length + 1 := by rw [List.length_append]; rfl
    have R := ih (pre ++ [j]) (v2 + gI h 4 j) (v3 - gI h 5 j) (v4 - gI h 2 j * gI h 5 j) (by rw [hp, List.append_assoc]; rfl) m (by omega)
    rw [hpl2] at R
    rw [fX12_canReach_22, e45, if_neg (nI_ge hpl (by omega))]
    simp only [inb_n (show pre.length < 15 by omega) (by omega), ck_t, nI_clamp (show pre.length < 2 ^ 31 by omega), eg, inb_n j15 (show 15 < 2 ^ 31 by omega), nI_clamp (show j < 2 ^ 31 by omega), nm_e1, nI_1, R, sumL]
    rw [show v2 + gI h 4 j + sumL (gI h 4) r = v2 + (gI h 4 j + sumL (gI h 4) r) by grind, show v3 - gI h 5 j - sumL (gI h 5) r = v3 - (gI h 5 j + sumL (gI h 5) r) by grind, show v4 - gI h 2 j * gI h 5 j - sumL (fun j => gI h 2 j * gI h 5 j) r = v4 - (gI h 2 j * gI h 5 j + sumL (fun j => gI h 2 j * gI h 5 j) r) by grind]
def CC (h : HS) (L : List Nat) (v4 : Int) (t : Int) : Prop := v4 + mwL (fun j => (gI h 2 j).toInt) (fun j => (gI h 4 j).toInt) L t ≤ (gI h 8 1).toInt ∧ -(gI h 8 1).toInt ≤ v4 + mwL (fun j => (gI h 2 j).toInt) (fun j => (gI h 4 j).toInt) L.reverse t
def ivR (h0 : HS) (L : List Nat) (v4 : Int) (st : Nat) (h : HS) (s : Nat) : Prop := (gI h 0 46 = -1 ∧ ∀ t : Nat, st ≤ t → t < s → ¬ CC h0 L v4 t) ∨ (∃ lo hi : Nat, gI h 0 46 = nI lo ∧ gI h 0 47 = nI hi ∧ (st ≤ lo ∧ lo < s) ∧ (st ≤ hi ∧ hi < s) ∧ CC h0 L v4 lo ∧ CC h0 L v4 hi ∧ ∀ t : Nat, st ≤ t → t < s → CC h0 L v4 t → lo ≤ t ∧ t ≤ hi)
/-- the model's search for sums -/
theorem l_can122 {h0 : HS} {L : List Nat} (h15 : L.length ≤ 15) (e45 : gI h0 0 45 = nI L.length) (hL : ∀ j ∈ L, j < 15 ∧ (-99 ≤ (gI h0 2 j).toInt ∧ (gI h0 2 j).toInt ≤ 99) ∧ (0 ≤ (gI h0 4 j).toInt ∧ (gI h0 4 j).toInt ≤ 999)) (hh : holdsM h0 L) {al v3 v4 : Int32} (ral : 0 ≤ al.toInt ∧ al.toInt ≤ 20000) (r3 : -1000000 ≤ v3.toInt ∧ v3.toInt ≤ 1000000) (r4 : -10000000 ≤ v4.toInt ∧ v4.toInt ≤ 10000000) (s0 : 0 ≤ (gI h0 8 0).toInt ∧ (gI h0 8 0).toInt ≤ 9999) (s1 : 0 ≤ (gI h0 8 1).toInt ∧ (gI h0 8 1).toInt ≤ 9999) (st E1 : Nat) (hE : (E1 : Int) = min al.toInt ((gI h0 8 0).toInt - v3.toInt) + 1) :
    ∀ (k s : Nat) (h : HS), (∀ b j, ¬ (b = 0 ∧ (j = 46 ∨ j = 47)) → gI h b j = gI h0 b j) → s + k = E1 → st ≤ s → ivR h0 L v4.toInt st h s → ∀ n, k < n → ∃ h', fX12_canReach_122 n al v3 v4 (nI s) h = fX12_canReach_216 h' ∧ (∀ b j, ¬ (b = 0 ∧ (j = 46 ∨ j = 47)) → gI h' b j = gI h0 b j) ∧ ivR h0 L v4.toInt st h' E1 := by
  intro k
  have e8 : (gI h0 8 0 - v3).toInt = (gI h0 8 0).toInt - v3.toInt := fb_subI9 (by omega) (by omega)
  have ng : (-gI h0 8 1).toInt = -(gI h0 8 1).toInt := Jvm.Kit.i32_neg (by omega)
  induction k with
  | zero =>
    intro s h sm hk hst inv n hn
    obtain ⟨m, rfl⟩ := fuel1 hn
    have es : (nI s).toInt = s := nI_toInt (by omega)
    have : s = E1 := by omega
    subst this
    refine ⟨h, ?_, sm, inv⟩
    rw [fX12_canReach_122]
    by_cases c1 : al < nI s
    · rw [if_pos c1]
    · rw [if_neg c1, sm 8 0 (by decide), if_pos (i32_lt.mpr ?_)]
      have : ¬ al.toInt < (nI s).toInt := fun z => c1 (i32_lt.mpr z)
      omega
  | succ k ih =>
    intro s h sm hk hst inv n hn
    obtain ⟨m, rfl⟩ := fuel1 hn
    have es : (nI s).toInt = s := nI_toInt (by omega)
    have fx : (fun j => (gI h 2 j).toInt) = (fun j => (gI h0 2 j).toInt) := funext fun j => by rw [sm 2 j (by omega)]
    have fm : (fun j => (gI h 4 j).toInt) = (fun j => (gI h0 4 j).toInt) := funext fun j => by rw [sm 4 j (by omega)]
    obtain ⟨⟨w1, a1, a2⟩, w2, b1, b2⟩ := e_momW (h := h) h15 (by rw [sm 0 45 (by decide)]; exact e45) (fun j hj => by rw [sm 2 j (by omega), sm 4 j (by omega)]; exact hL j hj) (fun k j hk => by rw [sm 21 k (by omega)]; exact hh k j hk) (s := s) (by omega)
    rw [fx, fm] at a2 b2
    have q1 := mw_rng (x := fun j => (gI h0 2 j).toInt) (m := fun j => (gI h0 4 j).toInt) (L := L) (s := s) (fun j hj => (hL j hj).2.1) (fun j hj => (hL j hj).2.2) (by omega)
    have q2 := mw_rng (x := fun j => (gI h0 2 j).toInt) (m := fun j => (gI h0 4 j).toInt) (L := L.reverse) (s := s) (fun j hj => (hL j (List.mem_reverse.mp hj)).2.1) (fun j hj => (hL j (List.mem_reverse.mp hj)).2.2) (by omega)
    rw [List.length_reverse] at q2
    have t1 : (v4 + w1).toInt = v4.toInt + w1.toInt := fb_addI9 (by omega) (by omega)
    have t2 : (v4 + w2).toInt = v4.toInt + w2.toInt := fb_addI9 (by omega) (by omega)
    rw [fX12_canReach_122, if_neg (fun z => by have := i32_lt.mp z; omega), sm 8 0 (by decide), if_neg (fun z => by have := i32_lt.mp z; omega), a1, bd_s, sm 8 1 (by decide), b1, bd_s, sm 8 1 (by decide)]
    simp only [nm_e1, nI_1]
    have no : ¬ CC h0 L v4.toInt s → ivR h0 L v4.toInt st h (s + 1) := by
      intro nc
      rcases inv with ⟨i1, i2⟩ | ⟨lo, hi, i1, i2, i3, i4, i5, i6, i7⟩
      · refine Or.inl ⟨i1, fun t h1 h2 => ?_⟩
        by_cases z : t = s
        · subst z; exact nc
        · exact i2 t h1 (by omega)
      · refine Or.inr ⟨lo, hi, i1, i2, by omega, by omega, i5, i6, fun t h1 h2 h3 => ?_⟩
        by_cases z : t = s
        · subst z; exact absurd h3 nc
        · exact i7 t h1 (by omega) h3
    by_cases c1 : gI h0 8 1 < v4 + w1
    · rw [if_pos c1]
      have c1' := i32_lt.mp c1
      exact ih (s + 1) h sm (by omega) (by omega) (no (fun z => by have := z.1; omega)) m (by omega)
    · rw [if_neg c1]
      have c1' : ¬ (gI h0 8 1).toInt < (v4 + w1).toInt := fun z => c1 (i32_lt.mpr z)
      by_cases c2 : -gI h0 8 1 ≤ v4 + w2
      · rw [if_pos c2]
        have c2' := i32_le.mp c2
        have yes : CC h0 L v4.toInt s := ⟨by omega, by omega⟩
        unfold fX12_canReach_201
        simp only [nm_e1, nI_1]
        have sm2 : ∀ x y, ∀ b j, ¬ (b = 0 ∧ (j = 46 ∨ j = 47)) → gI (pI (pI h 0 46 x) 0 47 y) b j = gI h0 b j := fun x y b j z => by
          rw [gI_pI, if_neg (fun q => z ⟨q.1, Or.inr q.2⟩), gI_pI, if_neg (fun q => z ⟨q.1, Or.inl q.2⟩)]
          exact sm b j z
        have g46 : ∀ x y, gI (pI (pI h 0 46 x) 0 47 y) 0 46 = x := fun x y => by rw [gI_pI, if_neg (by decide), gI_pI, if_pos ⟨rfl, rfl⟩]
        have g47 : ∀ x y, gI (pI (pI h 0 46 x) 0 47 y) 0 47 = y := fun x y => by rw [gI_pI, if_pos ⟨rfl, rfl⟩]
        rcases inv with ⟨i1, i2⟩ | ⟨lo, hi, i1, i2, i3, i4, i5, i6, i7⟩
        · rw [if_pos i1]
          refine ih (s + 1) _ (sm2 _ _) (by omega) (by omega) (Or.inr ⟨s, s, g46 _ _, g47 _ _, by omega, by omega, yes, yes, fun t h1 h2 h3 => ?_⟩) m (by omega)
          by_cases z : t = s
          · omega
          · exact absurd h3 (i2 t h1 (by omega))
        · rw [if_neg (by rw [i1]; exact fun z => m1_ne (by omega) z.symm)]
          refine ih (s + 1) _ (sm2 _ _) (by omega) (by omega) (Or.inr ⟨lo, s, (g46 _ _).trans i1, g47 _ _, by omega, by omega, i5, yes, fun t h1 h2 h3 => ?_⟩) m (by omega)
          by_cases z : t = s
          · omega
          · have := i7 t h1 (by omega) h3; omega
      · rw [if_neg c2]
        have c2' : ¬ (-gI h0 8 1).toInt ≤ (v4 + w2).toInt := fun z => c2 (i32_le.mpr z)
        exact ih (s + 1) h sm (by omega) (by omega) (no (fun z => by have := z.2; omega)) m (by omega)
theorem sumL_i {f : Nat → Int32} {g : Nat → Int} {hi : Int} (hh : hi ≤ 100000000) (hh0 : 0 ≤ hi) : ∀ {L : List Nat}, L.length ≤ 15 → (∀ j ∈ L, (f j).toInt = g j ∧ 0 ≤ g j ∧ g j ≤ hi) → (sumL f L).toInt = allL g L
  | [], _, _ => by rw [sumL, i32_z, allL]
  | j :: r, h15, h => by
    have h1 := h j List.mem_cons_self
    rw [List.length_cons] at h15
    have ih := sumL_i hh hh0 (f := f) (g := g) (L := r) (by omega) (fun k hk => h k (List.mem_cons_of_mem _ hk))
    have rg := sumL_rng (f := f) (lo := 0) (hi := hi) (by omega) (by omega) hh hh0 (L := r) (by omega) (fun k hk => by have := h k (List.mem_cons_of_mem _ hk); omega)
    have b2 : (r.length : Int) * hi ≤ 15 * hi := Int.mul_le_mul_of_nonneg_right (by omega) hh0
    rw [sumL, allL, fb_addI9 (by omega) (by omega), ih, h1.1]
theorem tank_rng (I : IL hm) : (tanksM hm).length ≤ 15 ∧ (∀ j ∈ tanksM hm, j < 15 ∧ j < nLd hm ∧ (-99 ≤ (gI hm 2 j).toInt ∧ (gI hm 2 j).toInt ≤ 99) ∧ (0 ≤ (gI hm 4 j).toInt ∧ (gI hm 4 j).toInt ≤ 999) ∧ (0 ≤ (gI hm 5 j).toInt ∧ (gI hm 5 j).toInt ≤ 999)) := by
  have h15 := (VN_n I.1).1
  refine ⟨?_, fun j hj => ?_⟩
  · have : (tanksM hm).length ≤ nLd hm := by unfold tanksM; rw [List.length_reverse]; exact ordR_len
    omega
  · have hj' : j < nLd hm := by unfold tanksM at hj; rw [List.mem_reverse] at hj; exact (ordR_mem.mp hj).1
    obtain ⟨-, x1, -, x2, x3, x4⟩ := I.2 j hj'
    exact ⟨by omega, hj', x1, by omega, by omega⟩
theorem rV_rng (I : IL hm) (J : IB hm) {d : Int32} (hd : 0 ≤ d ∧ d ≤ 600) : (-200000 ≤ (rV3 hm d).toInt ∧ (rV3 hm d).toInt ≤ 200000) ∧ (-4000000 ≤ (rV4 hm).toInt ∧ (rV4 hm).toInt ≤ 4000000) := by
  obtain ⟨t15, tr⟩ := tank_rng I
  have rH := H_rng I J d hd
  have rM := M_rng I J
  have s1 := sumL_rng (f := gI hm 5) (lo := 0) (hi := 999) (by omega) (by omega) (by omega) (by omega) t15 (fun j hj => (tr j hj).2.2.2.2)
  have s2 := sumL_rng (f := fun j => gI hm 2 j * gI hm 5 j) (lo := -98901) (hi := 98901) (by omega) (by omega) (by omega) (by omega) t15 (fun j hj => by
    obtain ⟨-, -, y1, -, y3⟩ := tr j hj
    have := mul_rng (x := gI hm 2 j) (y := gI hm 5 j) (a := 99) (b := 999) (by omega) y1 y3 (by omega)
    show -98901 ≤ (gI hm 2 j * gI hm 5 j).toInt ∧ (gI hm 2 j * gI hm 5 j).toInt ≤ 98901
    omega)
  unfold rV3 rV4
  rw [fb_subI9 (by omega) (by omega), fb_subI9 (by omega) (by omega)]
  omega
def exR (h h' : HS) : Prop := ∀ b j, ¬ b = 21 → ¬ (b = 0 ∧ (j = 45 ∨ j = 46 ∨ j = 47)) → gI h' b j = gI h b j
theorem tanksM_cg {h h' : HS} (e0 : gI h' 0 0 = gI h 0 0) (e1 : ∀ j, gI h' 1 j = gI h 1 j) (e2 : ∀ j, gI h' 2 j = gI h 2 j) : tanksM h' = tanksM h := by
  unfold tanksM
  rw [show nLd h' = nLd h by show (gI h' 0 0).toNatClampNeg = (gI h 0 0).toNatClampNeg; rw [e0], show gI h' 1 = gI h 1 from funext e1, show gI h' 2 = gI h 2 from funext e2]
/-- the model's canReach -/
theorem e_canM {h : HS} (I : IL h) (J : IB h) {d : Int32} (hd : 0 ≤ d ∧ d ≤ 600) : ∃ h' R, fX12_canReach d h = some (R, h') ∧ exR h h' ∧ ((R = 0 ∧ ∀ s, ¬ InR h d s) ∨ (R = 1 ∧ ∃ lo hi : Nat, gI h' 0 46 = nI lo ∧ gI h' 0 47 = nI hi ∧ InR h d lo ∧ InR h d hi ∧ ∀ s, InR h d s → (lo : Int) ≤ s ∧ s ≤ hi)) := by
  obtain ⟨h15, e00⟩ := VN_n I.1
  have Y : VY h := J.2.2.2.2.2.1
  obtain ⟨t15, tr⟩ := tank_rng I
  obtain ⟨h1, a1, a2, a3, a4⟩ := e_order I.1
  obtain ⟨q1, q2, q3, q4, -, q5⟩ := sm_M (h := h) (h' := h1) (a2 _ _ (by decide) (by decide)) (a2 _ _ (by decide) (by decide)) (a2 _ _ (by decide) (by decide)) (a2 _ _ (by decide) (by decide)) (a2 _ _ (by decide) (by decide)) (a2 _ _ (by decide) (by decide)) (a2 _ _ (by decide) (by decide)) (fun j => a2 _ _ (by decide) (by omega)) (fun j => a2 _ _ (by decide) (by omega)) (fun j => a2 _ _ (by decide) (by omega)) (fun j => a2 _ _ (by decide) (by omega))
  obtain ⟨q6, q7, q8⟩ := q5 (fun j => a2 _ _ (by decide) (by omega))
  have f2 : gI h1 2 = gI h 2 := funext fun j => a2 _ _ (by decide) (by omega)
  have f4 : gI h1 4 = gI h 4 := funext fun j => a2 _ _ (by decide) (by omega)
  have f5 : gI h1 5 = gI h 5 := funext fun j => a2 _ _ (by decide) (by omega)
  have f80 : gI h1 8 0 = gI h 8 0 := a2 _ _ (by decide) (by decide)
  have f81 : gI h1 8 1 = gI h 8 1 := a2 _ _ (by decide) (by decide)
  have eH : Hm h1 d = Hm h d := by unfold Hm; rw [q6, q4]
  obtain ⟨s0, s1, -⟩ := sl_rng J
  obtain ⟨v3r, v4r⟩ := rV_rng I J hd
  have eal := sumL_i (f := gI h 4) (g := fun j => (gI h 4 j).toInt) (hi := 999) (by omega) (by omega) t15 (fun j hj => ⟨rfl, (tr j hj).2.2.2.1⟩)
  have ralr := allL_rng (m := fun j => (gI h 4 j).toInt) (L := tanksM h) (fun j hj => (tr j hj).2.2.2.1)
  unfold fX12_canReach
  rw [a1, bv_s, e_heavyM (q2 I.1) (q3 Y), bd_s, e_momM0 (q2 I.1), bd_s, eH, q7]
  have R := l_can22 (h := h1) (d := d) t15 a3 (fun j hj => (tr j hj).1) a4 (tanksM h) [] 0 (Hm h d) (Mm h) rfl FU (FU_gt (by omega))
  rw [show nI ([] : List Nat).length = 0 from nI_0, Int32.zero_add, f4, f5, f2, f80] at R
  rw [R, show Hm h d - sumL (gI h 5) (tanksM h) = rV3 h d from rfl, show Mm h - sumL (fun j => gI h 2 j * gI h 5 j) (tanksM h) = rV4 h from rfl]
  -- where it begins
  have ng : (-gI h 8 0).toInt = -(gI h 8 0).toInt := Jvm.Kit.i32_neg (by omega)
  have est : (imax 0 (-gI h 8 0 - rV3 h d)).toInt = max 0 (-(gI h 8 0).toInt - (rV3 h d).toInt) := by rw [imax_toInt, i32_z, fb_subI9 (by omega) (by omega), ng]
  obtain ⟨st, hst, est2⟩ : ∃ st : Nat, (st : Int) = max 0 (-(gI h 8 0).toInt - (rV3 h d).toInt) ∧ imax 0 (-gI h 8 0 - rV3 h d) = nI st := ⟨(max 0 (-(gI h 8 0).toInt - (rV3 h d).toInt)).toNat, by omega, i32_eqI (by rw [est]; omega)⟩
  rw [est2]
  generalize eh0 : pI (pI h1 0 46 (-1)) 0 47 (-1) = h0
  have M : ∀ b j, ¬ (b = 0 ∧ (j = 46 ∨ j = 47)) → gI h0 b j = gI h1 b j := fun b j z => by
    rw [← eh0, gI_pI, if_neg (fun q => z ⟨q.1, Or.inr q.2⟩), gI_pI, if_neg (fun q => z ⟨q.1, Or.inl q.2⟩)]
  have m46 : gI h0 0 46 = -1 := by rw [← eh0, gI_pI, if_neg (by decide), gI_pI, if_pos ⟨rfl, rfl⟩]
  have g2 : gI h0 2 = gI h 2 := (funext fun j => M 2 j (by omega)).trans f2
  have g4 : gI h0 4 = gI h 4 := (funext fun j => M 4 j (by omega)).trans f4
  have g80 : gI h0 8 0 = gI h 8 0 := (M 8 0 (by decide)).trans f80
  have g81 : gI h0 8 1 = gI h 8 1 := (M 8 1 (by decide)).trans f81
  have inr : ∀ s : Int, InR h d s ↔ ((st : Int) ≤ s ∧ s ≤ min (sumL (gI h 4) (tanksM h)).toInt ((gI h 8 0).toInt - (rV3 h d).toInt)) ∧ CC h0 (tanksM h) (rV4 h).toInt s := fun s => by
    unfold InR CC
    rw [g81, g2, g4, eal]
    constructor
    · rintro ⟨z1, z2, z3, z4⟩
      exact ⟨by omega, z3, z4⟩
    · rintro ⟨z1, z3, z4⟩
      exact ⟨by omega, by omega, z3, z4⟩
  by_cases cE : (st : Int) ≤ min (sumL (gI h 4) (tanksM h)).toInt ((gI h 8 0).toInt - (rV3 h d).toInt) + 1
  · obtain ⟨E1, hE1⟩ : ∃ E1 : Nat, (E1 : Int) = min (sumL (gI h 4) (tanksM h)).toInt ((gI h 8 0).toInt - (rV3 h d).toInt) + 1 := ⟨(min (sumL (gI h 4) (tanksM h)).toInt ((gI h 8 0).toInt - (rV3 h d).toInt) + 1).toNat, by omega⟩
    obtain ⟨h', b1, b2, b3⟩ := l_can122 (h0 := h0) (L := tanksM h) (al := sumL (gI h 4) (tanksM h)) (v3 := rV3 h d) (v4 := rV4 h) t15 (by rw [M 0 45 (by decide)]; exact a3) (fun j hj => by rw [g2, g4]; obtain ⟨y1, -, y2, y3, -⟩ := tr j hj; exact ⟨y1, y2, y3⟩) (fun k j hk => by rw [M 21 k (by omega)]; exact a4 k j hk) (by omega) (by omega) (by omega) (by rw [g80]; exact s0) (by rw [g81]; exact s1) st E1 (by rw [g80]; exact hE1) (E1 - st) st h0 (fun _ _ _ => rfl) (by omega) (Nat.le_refl st) (Or.inl ⟨m46, fun t h1 h2 => by omega⟩) FU (FU_gt (by omega))
    rw [b1]
    unfold fX12_canReach_216
    have ex : exR h h' := fun b j z1 z2 => by
      rw [b2 b j (fun z => z2 ⟨z.1, by omega⟩), M b j (fun z => z2 ⟨z.1, by omega⟩), a2 b j z1 z2]
    rcases b3 with ⟨c1, c2⟩ | ⟨lo, hi, c1, c2, c3, c4, c5, c6, c7⟩
    · rw [if_pos c1]
      refine ⟨h', 0, rfl, ex, Or.inl ⟨rfl, fun s hs => ?_⟩⟩
      obtain ⟨z1, z2⟩ := (inr s).mp hs
      have e : s = ((s.toNat : Nat) : Int) := by omega
      rw [e] at z2
      exact c2 s.toNat (by omega) (by omega) z2
    · rw [if_neg (by rw [c1]; exact fun z => m1_ne (by omega) z.symm)]
      refine ⟨h', 1, rfl, ex, Or.inr ⟨rfl, lo, hi, c1, c2, (inr lo).mpr ⟨by omega, c5⟩, (inr hi).mpr ⟨by omega, c6⟩, fun s hs => ?_⟩⟩
      obtain ⟨z1, z2⟩ := (inr s).mp hs
      have e : s = ((s.toNat : Nat) : Int) := by omega
      rw [e] at z2
      have := c7 s.toNat (by omega) (by omega) z2
      omega
  · obtain ⟨f, hf⟩ : ∃ f, FU = f + 1 := ⟨39999, by rw [FU_eq]⟩
    have es : (nI st).toInt = st := nI_toInt (by omega)
    have e8 : (gI h 8 0 - rV3 h d).toInt = (gI h 8 0).toInt - (rV3 h d).toInt := fb_subI9 (by omega) (by omega)
    have stop : fX12_canReach_122 FU (sumL (gI h 4) (tanksM h)) (rV3 h d) (rV4 h) (nI st) h0 = fX12_canReach_216 h0 := by
      rw [hf, fX12_canReach_122, g80]
      by_cases c1 : sumL (gI h 4) (tanksM h) < nI st
      · rw [if_pos c1]
      · rw [if_neg c1, if_pos (i32_lt.mpr ?_)]
        have : ¬ (sumL (gI h 4) (tanksM h)).toInt < (nI st).toInt := fun z => c1 (i32_lt.mpr z)
        omega
    rw [stop]
    unfold fX12_canReach_216
    rw [if_pos m46]
    refine ⟨h0, 0, rfl, fun b j z1 z2 => by rw [M b j (fun z => z2 ⟨z.1, by omega⟩), a2 b j z1 z2], Or.inl ⟨rfl, fun s hs => ?_⟩⟩
    have := ((inr s).mp hs).1
    omega
end REN
