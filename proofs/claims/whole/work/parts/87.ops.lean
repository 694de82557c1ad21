section REM
variable {hc hm : HS}
def holdsM (h : HS) (L : List Nat) : Prop := ∀ k j, L[k]? = some j → gI h 21 k = nI j
theorem placeM {x : Nat → Int32} {l : Nat} (hl15 : l < 15) (K : Int32 → HS → Option HS) : ∀ (R : List Nat) (h : HS), (∀ j ∈ R, j < 15) → R.length < 15 → (∀ k, gI h 2 k = x k) → holdsM h R.reverse → ∀ n, R.length < n → ∃ h', fX12_orderTanks_32 K n (nI l) (nI R.length) h = K (nI (l + 1)) h' ∧ gI h' 0 45 = gI h 0 45 + 1 ∧ (∀ b j, ¬ b = 21 → ¬ (b = 0 ∧ j = 45) → gI h' b j = gI h b j) ∧ holdsM h' (insR x l R).reverse ∧ (∀ k, R.length < k → gI h' 21 k = gI h 21 k) := by
  have put : ∀ (R : List Nat) (h : HS), R.length < 15 → holdsM h R.reverse → ∃ h', fX12_orderTanks_78 K (nI l) (nI R.length) h = K (nI (l + 1)) h' ∧ gI h' 0 45 = gI h 0 45 + 1 ∧ (∀ b j, ¬ b = 21 → ¬ (b = 0 ∧ j = 45) → gI h' b j = gI h b j) ∧ holdsM h' (l :: R).reverse ∧ (∀ k, R.length < k → gI h' 21 k = gI h 21 k) := by
    intro R h hl hh
    unfold fX12_orderTanks_78
    rw [inb_n hl (by omega), ck_t, nI_clamp (by omega)]
    simp only [nm_e1, nI_1]
    refine ⟨_, rfl, ?_, fun b j h1 h2 => ?_, fun k j hk => ?_, fun k hk => ?_⟩
    · rw [gI_pI, if_pos ⟨rfl, rfl⟩, gI_pI, if_neg (by omega)]
    · rw [gI_pI, if_neg h2, gI_pI, if_neg (fun z => h1 z.1)]
    · rw [gI_pI, if_neg (by omega), gI_pI]
      rw [List.reverse_cons] at hk
      by_cases z : k = R.length
      · subst z
        rw [if_pos ⟨rfl, rfl⟩]
        rw [List.getElem?_append_right (by rw [List.length_reverse]; omega), List.length_reverse, Nat.sub_self] at hk
        cases hk
        rfl
      · rw [if_neg (fun y => z y.2)]
        by_cases z2 : k < R.length
        · rw [List.getElem?_append_left (by rw [List.length_reverse]; exact z2)] at hk
          exact hh k j hk
        · rw [List.getElem?_append_right (by rw [List.length_reverse]; omega), List.length_reverse, List.getElem?_eq_none (by simp; omega)] at hk
          cases hk
    · rw [gI_pI, if_neg (by omega), gI_pI, if_neg (by omega)]
  intro R
  induction R with
  | nil =>
    intro h _ hl hx hh n hn
    obtain ⟨n', rfl⟩ := fuel1 hn
    rw [fX12_orderTanks_32, show nI ([] : List Nat).length = 0 from nI_0, if_pos (by decide)]
    have := put [] h hl hh
    rw [show nI ([] : List Nat).length = 0 from nI_0] at this
    exact this
  | cons a r ih =>
    intro h hm hl hx hh n hn
    obtain ⟨n', rfl⟩ := fuel1 hn
    rw [List.length_cons] at hl hn
    have ha : a < 15 := hm a List.mem_cons_self
    have ea : gI h 21 r.length = nI a := hh r.length a (by
      rw [List.reverse_cons, List.getElem?_append_right (by rw [List.length_reverse]; omega), List.length_reverse, Nat.sub_self]; rfl)
    rw [fX12_orderTanks_32, List.length_cons, if_neg (nI_nle (by omega) (by omega)), nI_pred, inb_n (show r.length < 15 by omega) (by omega), ck_t, nI_clamp (by omega), ea, inb_n ha (by omega), ck_t, nI_clamp (by omega), inb_n hl15 (by omega), ck_t, nI_clamp (by omega), hx, hx]
    by_cases c : x a ≤ x l
    · rw [if_pos c, insR, if_neg (Int32.not_lt.mpr c)]
      have := put (a :: r) h (by rw [List.length_cons]; exact hl) hh
      rw [List.length_cons] at this
      exact this
    · rw [if_neg c, insR, if_pos (Int32.not_le.mp c), ck_t, inb_n hl (by omega), ck_t, nI_clamp (by omega), nm_e1, nm_e1, pk_m1]
      have g : ∀ b j, ¬ (b = 21 ∧ j = r.length + 1) → gI (pI h 21 (r.length + 1) (nI a)) b j = gI h b j := fun b j z => by rw [gI_pI, if_neg z]
      obtain ⟨h', a1, a2, a3, a4, a5⟩ := ih (pI h 21 (r.length + 1) (nI a)) (fun j hj => hm j (List.mem_cons_of_mem _ hj)) (by omega) (fun k => by rw [g 2 k (by omega)]; exact hx k) (fun k j hk => by
        have hkl : k < r.length := by
          by_cases z : k < r.length
          · exact z
          · rw [List.getElem?_eq_none (by rw [List.length_reverse]; omega)] at hk; cases hk
        rw [g 21 k (by omega)]
        refine hh k j ?_
        rw [List.reverse_cons, List.getElem?_append_left (by rw [List.length_reverse]; exact hkl)]
        exact hk) n' (by omega)
      refine ⟨h', a1, by rw [a2, g 0 45 (by omega)], fun b j h1 h2 => by rw [a3 b j h1 h2, g b j (fun z => h1 z.1)], fun k j hk => ?_, fun k hk => by rw [a5 k (by omega), g 21 k (by omega)]⟩
      rw [List.reverse_cons] at hk
      have hl2 : (insR x l r).reverse.length = r.length + 1 := by rw [List.length_reverse, insR_len]
      by_cases z : k < r.length + 1
      · rw [List.getElem?_append_left (by omega)] at hk
        exact a4 k j hk
      · by_cases z2 : k = r.length + 1
        · subst z2
          rw [List.getElem?_append_right (by omega), hl2, Nat.sub_self] at hk
          cases hk
          rw [a5 _ (by omega), gI_pI, if_pos ⟨rfl, rfl⟩]
        · rw [List.getElem?_append_right (by omega), hl2, List.getElem?_eq_none (by simp; omega)] at hk
          cases hk
def exO (h h' : HS) : Prop := ∀ b j, ¬ b = 21 → ¬ (b = 0 ∧ (j = 45 ∨ j = 46 ∨ j = 47)) → gI h' b j = gI h b j
theorem l_order {kd x : Nat → Int32} {N : Nat} (hN : N ≤ 15) : ∀ (k i : Nat) (h : HS), i + k = N → gI h 0 0 = nI N → (∀ j, gI h 1 j = kd j) → (∀ j, gI h 2 j = x j) → gI h 0 45 = nI (ordR kd x i).length → holdsM h (ordR kd x i).reverse → ∀ n, k < n → ∃ h', fX12_orderTanks_7 n (nI i) h = some h' ∧ exO h h' ∧ gI h' 0 45 = nI (ordR kd x N).length ∧ holdsM h' (ordR kd x N).reverse := by
  intro k
  induction k with
  | zero =>
    intro i h hi e _ _ e45 hh n hn
    obtain ⟨m, rfl⟩ := fuel1 hn
    have : i = N := by omega
    subst this
    exact ⟨h, by rw [fX12_orderTanks_7, e, if_pos (nI_le (by omega) (by omega))], fun _ _ _ _ => rfl, e45, hh⟩
  | succ k ih =>
    intro i h hi e hk hx e45 hh n hn
    obtain ⟨m, rfl⟩ := fuel1 hn
    have hlen := ordR_len (kd := kd) (x := x) (n := i)
    rw [fX12_orderTanks_7, e, if_neg (nI_ge (by omega) (by omega)), inb_n (show i < 15 by omega) (by omega), ck_t, nI_clamp (by omega), hk]
    simp only [nm_e1, nI_1]
    have er : ordR kd x (i + 1) = if kd i = 0 then insR x i (ordR kd x i) else ordR kd x i := rfl
    by_cases c : kd i = 0
    · rw [if_pos c, e45]
      obtain ⟨h1, a1, a2, a3, a4, -⟩ := placeM (x := x) (show i < 15 by omega) (fX12_orderTanks_7 m) (ordR kd x i) h (fun j hj => by have := (ordR_mem.mp hj).1; omega) (by omega) hx hh FU (FU_gt (by omega))
      rw [if_pos c] at er
      obtain ⟨h', b1, b2, b3, b4⟩ := ih (i + 1) h1 (by omega) (by rw [a3 0 0 (by decide) (by decide)]; exact e) (fun j => by rw [a3 1 j (by decide) (by omega)]; exact hk j) (fun j => by rw [a3 2 j (by decide) (by omega)]; exact hx j) (by rw [a2, e45, nI_1, er, insR_len]) (by rw [er]; exact a4) m (by omega)
      refine ⟨h', by rw [a1, b1], fun b j z1 z2 => by rw [b2 b j z1 z2, a3 b j z1 (fun z => z2 ⟨z.1, Or.inl z.2⟩)], b3, b4⟩
    · rw [if_neg c]
      rw [if_neg c] at er
      exact ih (i + 1) h (by omega) e hk hx (by rw [er]; exact e45) (by rw [er]; exact hh) m (by omega)
theorem e_order {h : HS} (V : VN h) : ∃ h', fX12_orderTanks h = some h' ∧ exO h h' ∧ gI h' 0 45 = nI (tanksM h).length ∧ holdsM h' (tanksM h) := by
  obtain ⟨h15, e⟩ := VN_n V
  have g : ∀ b j, ¬ (b = 0 ∧ j = 45) → gI (pI h 0 45 0) b j = gI h b j := fun b j z => by rw [gI_pI, if_neg z]
  obtain ⟨h', a1, a2, a3, a4⟩ := l_order (kd := gI h 1) (x := gI h 2) h15 (nLd h) 0 (pI h 0 45 0) (by omega) (by rw [g 0 0 (by decide)]; exact e) (fun j => g 1 j (by omega)) (fun j => g 2 j (by omega)) (by rw [gI_pI, if_pos ⟨rfl, rfl⟩]; exact nI_0.symm) (fun k j hk => by simp [ordR] at hk) FU (FU_gt (by omega))
  rw [nI_0] at a1
  refine ⟨h', ?_, fun b j z1 z2 => by rw [a2 b j z1 z2, g b j (fun z => z2 ⟨z.1, Or.inl z.2⟩)], ?_, a4⟩
  · unfold fX12_orderTanks
    rw [nm_e1]
    exact a1
  · rw [a3]; unfold tanksM; rw [List.length_reverse]
/-- the moment of a sum, by the model -/
theorem l_momW {h : HS} {L : List Nat} {len : Nat} (hlen : L.length = len) (h15 : len ≤ 15) (e45 : gI h 0 45 = nI len) (hL : ∀ j ∈ L, j < 15 ∧ (-99 ≤ (gI h 2 j).toInt ∧ (gI h 2 j).toInt ≤ 99) ∧ (0 ≤ (gI h 4 j).toInt ∧ (gI h 4 j).toInt ≤ 999)) (v2 : Int32) (σ : Nat → Nat) (hσ : ∀ i, i < len → σ i < 15 ∧ (if v2 = 0 then (nI len - 1) - nI i else nI i) = nI (σ i)) (hg : ∀ i j, L[i]? = some j → gI h 21 (σ i) = nI j) :
    ∀ (suf pre : List Nat) (v3 v4 : Int32), L = pre ++ suf → (0 ≤ v3.toInt ∧ v3.toInt ≤ 1000000) → (-(98901 * (pre.length : Int)) ≤ v4.toInt ∧ v4.toInt ≤ 98901 * (pre.length : Int)) → ∀ n, suf.length < n → ∃ w, fX12_momentWith_8 n v2 v3 v4 (nI pre.length) h = some (w, h) ∧ w.toInt = v4.toInt + mwL (fun j => (gI h 2 j).toInt) (fun j => (gI h 4 j).toInt) suf v3.toInt := by
  intro suf
  induction suf with
  | nil =>
    intro pre v3 v4 hp h3 h4 n hn
    obtain ⟨m, rfl⟩ := fuel1 hn
    rw [List.append_nil] at hp
    refine ⟨v4, ?_, by rw [mwL, Int.add_zero]⟩
    rw [fX12_momentWith_8, e45, if_pos (nI_le (by rw [← hp]; omega) (by rw [← hp]; omega))]
  | cons j r ih =>
    intro pre v3 v4 hp h3 h4 n hn
    obtain ⟨m, rfl⟩ := fuel1 hn
    have hpl : pre.length < len := by rw [← hlen, hp, List.length_append, List.length_cons]; omega
    obtain ⟨s1, s2⟩ := hσ pre.length hpl
    have eg := hg pre.length j (by rw [hp, List.getElem?_append_right (Nat.le_refl _), Nat.sub_self]; rfl)
    obtain ⟨j15, jx, jm⟩ := hL j (by rw [hp]; exact List.mem_append_right _ List.mem_cons_self)
    rw [List.length_cons] at hn
    have e7 := imin_toInt v3 (gI h 4 j)
    obtain ⟨m1, m2, m3⟩ := mul_rng (x := gI h 2 j) (y := imin v3 (gI h 4 j)) (a := 99) (b := 999) (by omega) jx (by omega) (by omega)
    have e8 : (v4 + gI h 2 j * imin v3 (gI h 4 j)).toInt = v4.toInt + (gI h 2 j).toInt * min v3.toInt (gI h 4 j).toInt := by rw [fb_addI9 (by omega) (by omega), m1, e7]
    have e9 : (v3 - imin v3 (gI h 4 j)).toInt = v3.toInt - min v3.toInt (gI h 4 j).toInt := by rw [fb_subI9 (by omega) (by omega), e7]
    have hpl2 : (pre ++ [j]).length = pre.length + 1 := by rw [List.length_append]; rfl
    obtain ⟨w, b1, b2⟩ := ih (pre ++ [j]) (v3 - imin v3 (gI h 4 j)) (v4 + gI h 2 j * imin v3 (gI h 4 j)) (by rw [hp, List.append_assoc]; rfl) (by omega) (by rw [hpl2, e8, ← e7, ← m1]; omega) m (by omega)
    rw [hpl2] at b1
    rw [e8, e9] at b2
    have stp : fX12_momentWith_39 (fX12_momentWith_8 m) v2 v3 v4 (nI pre.length) (nI (σ pre.length)) h = some (w, h) := by
      unfold fX12_momentWith_39
      simp only [inb_n s1 (show 15 < 2 ^ 31 by omega), ck_t, nI_clamp (show σ pre.length < 2 ^ 31 by omega), nm_e1, eg, inb_n j15 (show 15 < 2 ^ 31 by omega), nI_clamp (show j < 2 ^ 31 by omega), nI_1]
      exact b1
    refine ⟨w, ?_, by rw [b2, mwL, Int.add_assoc]⟩
    rw [fX12_momentWith_8, e45, if_neg (nI_ge hpl (by omega))]
    by_cases c : v2 = 0
    · rw [if_pos c] at s2
      rw [if_pos c, s2]
      exact stp
    · rw [if_neg c] at s2
      rw [if_neg c]
      have := stp
      rw [← s2] at this
      exact this
theorem rev_get {L : List Nat} {len i j : Nat} (hlen : L.length = len) (hi : i < len) (h : L.reverse[i]? = some j) : L[len - 1 - i]? = some j := by
  rw [List.getElem?_reverse (by omega), hlen] at h
  exact h
theorem e_momW {h : HS} {L : List Nat} (h15 : L.length ≤ 15) (e45 : gI h 0 45 = nI L.length) (hL : ∀ j ∈ L, j < 15 ∧ (-99 ≤ (gI h 2 j).toInt ∧ (gI h 2 j).toInt ≤ 99) ∧ (0 ≤ (gI h 4 j).toInt ∧ (gI h 4 j).toInt ≤ 999)) (hh : holdsM h L) {s : Nat} (hs : s ≤ 1000000) : (∃ w, fX12_momentWith (nI s) 1 h = some (w, h) ∧ w.toInt = mwL (fun j => (gI h 2 j).toInt) (fun j => (gI h 4 j).toInt) L s) ∧ (∃ w, fX12_momentWith (nI s) 0 h = some (w, h) ∧ w.toInt = mwL (fun j => (gI h 2 j).toInt) (fun j => (gI h 4 j).toInt) L.reverse s) := by
  have es : (nI s).toInt = s := nI_toInt (by omega)
  unfold fX12_momentWith
  constructor
  · obtain ⟨w, a1, a2⟩ := l_momW (L := L) rfl h15 e45 hL 1 (fun i => i) (fun i hi => ⟨by omega, by rw [if_neg (by decide)]⟩) hh L [] (nI s) 0 rfl (by omega) (by rw [i32_z]; simp) FU (FU_gt (by omega))
    rw [show nI ([] : List Nat).length = 0 from nI_0] at a1
    exact ⟨w, a1, by rw [a2, i32_z, Int.zero_add, es]⟩
  · obtain ⟨w, a1, a2⟩ := l_momW (L := L.reverse) (len := L.length) List.length_reverse h15 e45 (fun j hj => hL j (List.mem_reverse.mp hj)) 0 (fun i => L.length - 1 - i) (fun i hi => ⟨by omega, by
      rw [if_pos rfl, show (1 : Int32) = nI 1 by decide, pk_sub (by omega), pk_sub (by omega)]⟩) (fun i j hk => by
        have hi : i < L.length := by
          by_cases z : i < L.length
          · exact z
          · rw [List.getElem?_eq_none (by rw [List.length_reverse]; omega)] at hk; cases hk
        exact hh _ j (rev_get rfl hi hk)) L.reverse [] (nI s) 0 rfl (by omega) (by rw [i32_z]; simp) FU (FU_gt (by rw [List.length_reverse]; omega))
    rw [show nI ([] : List Nat).length = 0 from nI_0] at a1
    exact ⟨w, a1, by rw [a2, i32_z, Int.zero_add, es]⟩
def sumL (f : Nat → Int32) : List Nat → Int32
  | [] => 0
  | j :: r => f j + sumL f r
theorem sumL_rng {f : Nat → Int32} {lo hi : Int} (hl : -100000000 ≤ lo) (hl0 : lo ≤ 0) (hh : hi ≤ 100000000) (hh0 : 0 ≤ hi) : ∀ {L : List Nat}, L.length ≤ 15 → (∀ j ∈ L, lo ≤ (f j).toInt ∧ (f j).toInt ≤ hi) → (L.length : Int) * lo ≤ (sumL f L).toInt ∧ (sumL f L).toInt ≤ (L.length : Int) * hi
  | [], _, _ => by rw [sumL, i32_z]; simp
  | j :: r, h15, h => by
    have h1 := h j List.mem_cons_self
    rw [List.length_cons] at h15
    have ih := sumL_rng hl hl0 hh hh0 (L := r) (by omega) (fun k hk => h k (List.mem_cons_of_mem _ hk))
    have b1 : (r.length : Int) * lo ≥ 15 * lo := Int.mul_le_mul_of_nonpos_right (by omega) hl0
    have b2 : (r.length : Int) * hi ≤ 15 * hi := Int.mul_le_mul_of_nonneg_right (by omega) hh0
    rw [sumL, fb_addI9 (by omega) (by omega), List.length_cons]
    rw [show ((r.length + 1 : Nat) : Int) * lo = (r.length : Int) * lo + lo by rw [Int.natCast_add, Int.add_mul]; simp, show ((r.length + 1 : Nat) : Int) * hi = (r.length : Int) * hi + hi by rw [Int.natCast_add, Int.add_mul]; simp]
    omega
/-- what the tanks may have together -/
def rV3 (h : HS) (d : Int32) : Int32 := Hm h d - sumL (gI h 5) (tanksM h)
def rV4 (h : HS) : Int32 := Mm h - sumL (fun j => gI h 2 j * gI h 5 j) (tanksM h)
def InR (h : HS) (d : Int32) (s : Int) : Prop := (0 ≤ s ∧ s ≤ allL (fun j => (gI h 4 j).toInt) (tanksM h)) ∧ (-(gI h 8 0).toInt ≤ (rV3 h d).toInt + s ∧ (rV3 h d).toInt + s ≤ (gI h 8 0).toInt) ∧ (rV4 h).toInt + mwL (fun j => (gI h 2 j).toInt) (fun j => (gI h 4 j).toInt) (tanksM h) s ≤ (gI h 8 1).toInt ∧ -(gI h 8 1).toInt ≤ (rV4 h).toInt + mwL (fun j => (gI h 2 j).toInt) (fun j => (gI h 4 j).toInt) (tanksM h).reverse s
end REM
