section PARM
variable {h : HS} {ch : Nat → Int32} {E : PEnv}
def MS (h : HS) (E : PEnv) (b : Nat) (o : Option (Int32 × HS)) (p : PX) : Prop := (∃ f, p = .inl f ∧ f ≤ 60 ∧ ∃ v x, o = some (v, pI (pI h 0 29 (nI x)) 0 30 (nI f))) ∨ (∃ g e, p = .inr (g, e) ∧ b ≤ e ∧ e ≤ 60 ∧ o = some (g E, pI h 0 29 (nI e)))
def EM (h : HS) (E : PEnv) : Prop := ∀ a, a ≤ 61 → fX12_heavyAt 0 (pI h 0 29 (nI a)) = some (E.2 104, pI h 0 29 (nI a)) ∧ fX12_momentOf 0 (pI h 0 29 (nI a)) = some (E.2 109, pI h 0 29 (nI a)) ∧ fX12_momentOf 1 (pI h 0 29 (nI a)) = some (E.2 108, pI h 0 29 (nI a)) ∧ gI (pI h 0 29 (nI a)) 0 16 = E.2 100 ∧ fX12_densityAt 0 (pI h 0 29 (nI a)) = some (E.2 119, pI h 0 29 (nI a)) ∧ ∀ j, j ≤ 15 → bd (fX12_isLoad (nI j) (pI h 0 29 (nI a))) (fun r31 h30 => if r31 = 0 then (some (0, h30)) else (ck (inb (nI j) 15) (some ((gI h30 5 (nI j).toNatClampNeg), h30)))) = some (E.1 j, pI h 0 29 (nI a))
theorem m_at (T : TM h ch) (Z : ZZ ch) (V : EM h E) {a : Nat} (ha : a ≤ 60) (gs gt : Int32 → HS → Option (Int32 × HS)) {x : Int32} (x1 : SC x (ch a)) : MS h E (a + 1) (fX12_thing_67 gs gt x (pI h 0 29 (nI a))) (pAt ch a) := by
  unfold fX12_thing_67 pAt
  rw [f_in, bd_s, if10s]
  by_cases c : (48 : Int32) ≤ ch a ∧ ch a ≤ 57
  · rw [if_pos ((sc_dg x1).mpr c), if_pos c]
    rcases m_num T Z (D := 4) (M := 9999) (by omega) (by omega) ha with ⟨f, e1, e2, y, e3⟩ | ⟨v, e, e1, e2, e3, e4, e5⟩
    · rw [e1, show (4 : Int32) = nI 4 by decide, show (9999 : Int32) = nI 9999 by decide, e3, bd_s]
      exact Or.inl ⟨f, rfl, e2, _, _, rfl⟩
    · rw [e1, show (4 : Int32) = nI 4 by decide, show (9999 : Int32) = nI 9999 by decide, e5, bd_s]
      exact Or.inr ⟨_, _, rfl, by omega, e4, rfl⟩
  · rw [if_neg (fun z => c ((sc_dg x1).mp z)), if_neg c]
    by_cases c1 : ch a = 110
    · have l := ZZ_l Z c1 (by decide)
      rw [if_pos ((sg_eq x1 (by decide)).mpr c1), if_pos c1, nm_e1, g29, nI_1, pI_pI]
      rcases m_num T Z (D := 2) (M := 15) (a := a + 1) (by omega) (by omega) (by omega) with ⟨f, e1, e2, y, e3⟩ | ⟨v, e, e1, e2, e3, e4, e5⟩
      · rw [e1, show (2 : Int32) = nI 2 by decide, show (15 : Int32) = nI 15 by decide, e3, bd_s]
        have B := bdM_p (h := h) (x := nI y) e2
        refine Or.inl ⟨f, rfl, e2, ?_⟩
        have q := (V y)
        unfold fX12_isLoad
        rw [f_in, bd_s, bd_s]
        by_cases w : (0 : Int32) ≤ 0 ∧ 0 ≤ gI (pI (pI h 0 29 (nI y)) 0 30 (nI f)) 0 0 - 1
        · rw [if_pos w, if_neg (by decide), show inb (0 : Int32) 15 = true by decide, ck_t]
          exact ⟨_, y, rfl⟩
        · rw [if_neg w, if_pos (by decide)]
          exact ⟨_, y, rfl⟩
      · rw [e1, show (2 : Int32) = nI 2 by decide, show (15 : Int32) = nI 15 by decide, e5, bd_s, (V e (by omega)).2.2.2.2.2 v e2]
        exact Or.inr ⟨_, _, rfl, by omega, e4, rfl⟩
    · rw [if_neg (fun z => c1 ((sg_eq x1 (by decide)).mp z)), if_neg c1]
      have q : ∀ p : Int32, ch a = p → (0 : Int32) ≤ p ∧ p ≤ 127 → a < 60 ∧ x = p := fun p e hp => ⟨ZZ_l Z e hp.1, (sg_eq x1 hp).mpr e⟩
      have fin : ∀ p : Int32, ch a = p → (0 : Int32) ≤ p ∧ p ≤ 127 → (p = 104 ∨ p = 109 ∨ p = 108 ∨ p = 100 ∨ p = 119) → MS h E (a + 1) (fX12_thing_170 gs gt x (pI h 0 29 (nI a))) (.inr (fun E => E.2 (ch a), a + 1)) := by
        intro p e hp hq
        obtain ⟨l, ex⟩ := q p e hp
        obtain ⟨v1, v2, v3, v4, v5, -⟩ := V (a + 1) (by omega)
        refine Or.inr ⟨_, _, rfl, Nat.le_refl _, by omega, ?_⟩
        unfold fX12_thing_170
        rw [nm_e1, g29, nI_1, pI_pI, ex, e]
        rcases hq with rfl | rfl | rfl | rfl | rfl
        · rw [if_pos rfl, v1, bd_s]
        · rw [if_neg (by decide), if_pos rfl, v2, bd_s]
        · rw [if_neg (by decide), if_neg (by decide), if_pos rfl, v3, bd_s]
        · rw [if_neg (by decide), if_neg (by decide), if_neg (by decide), if_pos rfl, v4]
        · rw [if_neg (by decide), if_neg (by decide), if_neg (by decide), if_neg (by decide), v5, bd_s]
      have st : ∀ p : Int32, (0 : Int32) ≤ p ∧ p ≤ 127 → ¬ ch a = p → ¬ x = p := fun p hp e z => e ((sg_eq x1 hp).mp z)
      by_cases c2 : ch a = 104
      · rw [if_pos (q _ c2 (by decide)).2, if_pos (Or.inl c2)]
        exact fin _ c2 (by decide) (by decide)
      · rw [if_neg (st _ (by decide) c2)]
        by_cases c3 : ch a = 109
        · rw [if_pos (q _ c3 (by decide)).2, if_pos (Or.inr (Or.inl c3))]
          exact fin _ c3 (by decide) (by decide)
        · rw [if_neg (st _ (by decide) c3)]
          by_cases c4 : ch a = 108
          · rw [if_pos (q _ c4 (by decide)).2, if_pos (Or.inr (Or.inr (Or.inl c4)))]
            exact fin _ c4 (by decide) (by decide)
          · rw [if_neg (st _ (by decide) c4)]
            by_cases c5 : ch a = 100
            · rw [if_pos (q _ c5 (by decide)).2, if_pos (Or.inr (Or.inr (Or.inr (Or.inl c5))))]
              exact fin _ c5 (by decide) (by decide)
            · rw [if_neg (st _ (by decide) c5)]
              by_cases c6 : ch a = 119
              · rw [if_pos (q _ c6 (by decide)).2, if_pos (Or.inr (Or.inr (Or.inr (Or.inr c6))))]
                exact fin _ c6 (by decide) (by decide)
              · rw [if_neg (st _ (by decide) c6), if_neg (by rintro (z | z | z | z | z) <;> contradiction), g29, m_fault T, bv_s]
                exact Or.inl ⟨a, rfl, ha, _, _, rfl⟩
theorem m_lp (T : TM h ch) (Z : ZZ ch) {g : Int32 → HS → Option (Int32 × HS)} {v1 : Int32} {th : Nat → PX} {lo : Nat} (G : ∀ a, lo ≤ a → a ≤ 60 → MS h E (a + 1) (g v1 (pI h 0 29 (nI a))) (th a)) : ∀ (k a : Nat) (v : PEnv → Int32) (n : Nat), lo ≤ a → 61 ≤ k + a → a ≤ 60 → k < n → MS h E a (fX12_product_6 g n v1 (v E) (pI h 0 29 (nI a))) (pLp ch th k v a) := by
  intro k
  induction k with
  | zero => intro a v n h1 h2 h3; omega
  | succ k ih =>
    intro a v n h1 h2 h3 hn
    obtain ⟨m, rfl⟩ := fuel1 hn
    obtain ⟨m', rfl⟩ := fuel1 (show k < m by omega)
    rw [fX12_product_6, m_pass T (by omega) (by decide), pLp]
    by_cases c : ch a = 42
    · have l := ZZ_l Z c (by decide)
      rw [if_pos c, if_pos c, bd_s, if_neg (by decide)]
      rcases G (a + 1) (by omega) (by omega) with ⟨f, e1, e2, v', x, e3⟩ | ⟨r, e, e1, e2, e3, e4⟩
      · have B := bdM_p (h := h) (x := nI x) e2
        rw [e1, pB, e3, bd_s, nm_e1, fX12_product_6, b_pass B, bd_s, if_pos rfl]
        exact Or.inl ⟨f, rfl, e2, _, _, rfl⟩
      · rw [e1, pB, e4, bd_s, nm_e1]
        rcases ih e (fun E => v E * r E) (m' + 1) (by omega) (by omega) e3 (by omega) with q | ⟨g', e', q1, q2, q3, q4⟩
        · exact Or.inl q
        · exact Or.inr ⟨g', e', q1, by omega, q3, q4⟩
    · rw [if_neg c, if_neg c, bd_s, if_pos rfl]
      exact Or.inr ⟨v, a, rfl, Nat.le_refl _, h3, rfl⟩
theorem m_pr (T : TM h ch) (Z : ZZ ch) {g : Int32 → HS → Option (Int32 × HS)} {v1 : Int32} {th : Nat → PX} {lo : Nat} (G : ∀ a, lo ≤ a → a ≤ 60 → MS h E (a + 1) (g v1 (pI h 0 29 (nI a))) (th a)) : ∀ a, lo ≤ a → a ≤ 60 → MS h E (a + 1) (fX12_product g v1 (pI h 0 29 (nI a))) (pPr ch th a) := by
  intro a h1 h2
  unfold fX12_product pPr
  rcases G a h1 h2 with ⟨f, e1, e2, v', x, e3⟩ | ⟨r, e, e1, e2, e3, e4⟩
  · have B := bdM_p (h := h) (x := nI x) e2
    obtain ⟨u, eu⟩ := fuel1 (FU_gt (show 0 < 40000 by omega))
    rw [e1, pB, e3, bd_s, eu, fX12_product_6, b_pass B, bd_s, if_pos rfl]
    exact Or.inl ⟨f, rfl, e2, _, _, rfl⟩
  · rw [e1, pB, e4, bd_s]
    rcases m_lp T Z G 70 e r FU (by omega) (by omega) e3 (FU_gt (by omega)) with q | ⟨g', e', q1, q2, q3, q4⟩
    · exact Or.inl q
    · exact Or.inr ⟨g', e', q1, by omega, q3, q4⟩
theorem m_ls (T : TM h ch) (Z : ZZ ch) {g : Int32 → HS → Option (Int32 × HS)} {v1 : Int32} {pr : Nat → PX} {lo : Nat} (G : ∀ a, lo ≤ a → a ≤ 60 → MS h E (a + 1) (g v1 (pI h 0 29 (nI a))) (pr a)) : ∀ (k a : Nat) (v : PEnv → Int32) (n : Nat), lo ≤ a → 61 ≤ k + a → a ≤ 60 → k < n → MS h E a (fX12_sum_6 g n v1 (v E) (pI h 0 29 (nI a))) (pLs ch pr k v a) := by
  intro k
  induction k with
  | zero => intro a v n h1 h2 h3; omega
  | succ k ih =>
    intro a v n h1 h2 h3 hn
    obtain ⟨m, rfl⟩ := fuel1 hn
    obtain ⟨m', rfl⟩ := fuel1 (show k < m by omega)
    obtain ⟨x, x1, x2⟩ := T.2 a (by omega)
    rw [fX12_sum_6, m_fine T, bd_s, if_neg (by decide), x2, bd_s, pLs]
    by_cases c : ch a = 43
    · have l := ZZ_l Z c (by decide)
      have xc := (sg_eq x1 (by decide)).mpr c
      rw [if_pos xc, if_pos c]
      unfold fX12_sum_31 fX12_sum_45
      rw [x2, bd_s, if_pos xc, nm_e1, g29, nI_1, pI_pI]
      rcases G (a + 1) (by omega) (by omega) with ⟨f, e1, e2, v', x, e3⟩ | ⟨r, e, e1, e2, e3, e4⟩
      · have B := bdM_p (h := h) (x := nI x) e2
        rw [e1, pB, e3, bd_s, if_neg (by decide), nm_e1, fX12_sum_6, b_fine B, bd_s, if_pos rfl]
        exact Or.inl ⟨f, rfl, e2, _, _, rfl⟩
      · rw [e1, pB, e4, bd_s, if_neg (by decide), nm_e1]
        rcases ih e (fun E => v E + r E) (m' + 1) (by omega) (by omega) e3 (by omega) with q | ⟨g', e', q1, q2, q3, q4⟩
        · exact Or.inl q
        · exact Or.inr ⟨g', e', q1, by omega, q3, q4⟩
    · have xc : ¬ x = 43 := fun z => c ((sg_eq x1 (by decide)).mp z)
      rw [if_neg xc, if_neg c, x2, bd_s]
      by_cases c2 : ch a = 45
      · have l := ZZ_l Z c2 (by decide)
        have xc2 := (sg_eq x1 (by decide)).mpr c2
        rw [if_pos xc2, if_pos c2]
        unfold fX12_sum_31 fX12_sum_45
        rw [x2, bd_s, if_neg xc, nm_e1, g29, nI_1, pI_pI]
        rcases G (a + 1) (by omega) (by omega) with ⟨f, e1, e2, v', x, e3⟩ | ⟨r, e, e1, e2, e3, e4⟩
        · have B := bdM_p (h := h) (x := nI x) e2
          rw [e1, pB, e3, bd_s, if_pos rfl, nm_e1, fX12_sum_6, b_fine B, bd_s, if_pos rfl]
          exact Or.inl ⟨f, rfl, e2, _, _, rfl⟩
        · rw [e1, pB, e4, bd_s, if_pos rfl, nm_e1]
          rcases ih e (fun E => v E - r E) (m' + 1) (by omega) (by omega) e3 (by omega) with q | ⟨g', e', q1, q2, q3, q4⟩
          · exact Or.inl q
          · exact Or.inr ⟨g', e', q1, by omega, q3, q4⟩
      · rw [if_neg (fun z => c2 ((sg_eq x1 (by decide)).mp z)), if_neg c2]
        exact Or.inr ⟨v, a, rfl, Nat.le_refl _, h3, rfl⟩
theorem m_sm (T : TM h ch) (Z : ZZ ch) {g : Int32 → HS → Option (Int32 × HS)} {v1 : Int32} {pr : Nat → PX} {lo : Nat} (G : ∀ a, lo ≤ a → a ≤ 60 → MS h E (a + 1) (g v1 (pI h 0 29 (nI a))) (pr a)) : ∀ a, lo ≤ a → a ≤ 60 → MS h E (a + 1) (fX12_sum g v1 (pI h 0 29 (nI a))) (pSm ch pr a) := by
  intro a h1 h2
  unfold fX12_sum pSm
  rcases G a h1 h2 with ⟨f, e1, e2, v', x, e3⟩ | ⟨r, e, e1, e2, e3, e4⟩
  · have B := bdM_p (h := h) (x := nI x) e2
    obtain ⟨u, eu⟩ := fuel1 (FU_gt (show 0 < 40000 by omega))
    rw [e1, pB, e3, bd_s, eu, fX12_sum_6, b_fine B, bd_s, if_pos rfl]
    exact Or.inl ⟨f, rfl, e2, _, _, rfl⟩
  · rw [e1, pB, e4, bd_s]
    rcases m_ls T Z G 70 e r FU (by omega) (by omega) e3 (FU_gt (by omega)) with q | ⟨g', e', q1, q2, q3, q4⟩
    · exact Or.inl q
    · exact Or.inr ⟨g', e', q1, by omega, q3, q4⟩
theorem m_th (T : TM h ch) (Z : ZZ ch) (V : EM h E) : ∀ (n d a : Nat), d ≤ 4 → 61 ≤ n + a → a ≤ 60 → MS h E (a + 1) (rX12_thing n (nI d) (pI h 0 29 (nI a))) (pTh ch n d a) := by
  intro n
  induction n with
  | zero => intro d a hd h1 h2; omega
  | succ n ih =>
    intro d a hd h1 h2
    rw [rX12_thing, pTh]
    unfold fX12_thing
    rw [m_pass T (by omega) (by decide)]
    by_cases c : ch a = 45
    · have l := ZZ_l Z c (by decide)
      rw [if_pos c, if_pos c, bd_s, if_neg (by decide)]
      rcases ih d (a + 1) hd (by omega) (by omega) with ⟨f, e1, e2, v', x, e3⟩ | ⟨r, e, e1, e2, e3, e4⟩
      · rw [e1, pB, e3, bd_s]
        exact Or.inl ⟨f, rfl, e2, _, _, rfl⟩
      · rw [e1, pB, e4, bd_s]
        exact Or.inr ⟨_, e, rfl, by omega, e3, rfl⟩
    · obtain ⟨x, x1, x2⟩ := T.2 a (by omega)
      rw [if_neg c, if_neg c, bd_s, if_pos rfl, m_fine T, bd_s, if_neg (by decide), x2, bd_s]
      by_cases c2 : ch a = 40
      · have l := ZZ_l Z c2 (by decide)
        rw [if_pos ((sg_eq x1 (by decide)).mpr c2), show (4 : Int32) = nI 4 by decide]
        by_cases c3 : d < 4
        · rw [if_neg (nI_ge c3 (by omega)), if_pos ⟨c2, c3⟩, nm_e1, g29, nI_1, pI_pI, nI_1]
          rcases m_sm T Z (m_pr T Z (lo := a + 1) (fun b y1 y2 => ih (d + 1) b (by omega) (by omega) y2)) (a + 1) (Nat.le_refl _) (by omega) with ⟨f, e1, e2, v', x, e3⟩ | ⟨r, e, e1, e2, e3, e4⟩
          · have B := bdM_p (h := h) (x := nI x) e2
            rw [e1, pB, e3, bd_s, b_need B, bv_s]
            exact Or.inl ⟨f, rfl, e2, _, _, rfl⟩
          · rw [e1, pB, e4, bd_s, m_need T (by omega) (by decide)]
            by_cases c4 : ch e = 41
            · have l2 := ZZ_l Z c4 (by decide)
              rw [if_pos c4, bv_s]
              exact Or.inr ⟨r, e + 1, by rw [if_pos c4], by omega, by omega, rfl⟩
            · rw [if_neg c4, bv_s]
              exact Or.inl ⟨e, by rw [if_neg c4], e3, _, _, rfl⟩
        · rw [if_pos (nI_le (by omega) (by omega)), if_neg (fun z => c3 z.2)]
          exact m_at T Z V h2 _ _ x1
      · rw [if_neg (fun z => c2 ((sg_eq x1 (by decide)).mp z)), if_neg (fun z => c2 z.1)]
        exact m_at T Z V h2 _ _ x1
theorem m_E (T : TM h ch) (Z : ZZ ch) (V : EM h E) {a : Nat} (ha : a ≤ 60) : MS h E (a + 1) (gX12_sum 0 (pI h 0 29 (nI a))) (pE ch a) := by
  have := m_sm T Z (m_pr T Z (lo := 0) (fun b _ y2 => m_th T Z V 70 0 b (by omega) (by omega) y2)) a (by omega) ha
  rw [nI_0] at this
  exact this
end PARM
