section PARD
variable {h : HS} {ch : Nat → Int32} {E : PEnv}
def CS (A : Nat) (h : HS) (E : PEnv) (b : Nat) (o : Option (Int32 × HS)) (p : PX) : Prop := (∃ f, p = .inl f ∧ f ≤ 60 ∧ ∃ v x, o = some (v, pI (pI h A 2 (nI x)) A 3 (nI f))) ∨ (∃ g e, p = .inr (g, e) ∧ b ≤ e ∧ e ≤ 60 ∧ o = some (g E, pI h A 2 (nI e)))
def EC (h : HS) (E : PEnv) : Prop := (∃ N, N ≤ 15 ∧ gI h 2 8 = nI N) ∧ ∀ a, a ≤ 61 → (∀ p : Int32, (p = 104 ∨ p = 109 ∨ p = 108 ∨ p = 100 ∨ p = 119) → fX1_letter p (pI h 14 2 (nI a)) = some (E.2 p, pI h 14 2 (nI a))) ∧ ∀ j, j ≤ 15 → bd (fX4_there (nI j) (pI h 14 2 (nI a))) (fun r25 h24 => if r25 = 0 then (some (0, h24)) else (ck (inb (nI j) 15) (some ((gI h24 30 (nI j).toNatClampNeg), h24)))) = some (E.1 j, pI h 14 2 (nI a))
theorem t_some {N : Nat} (hN : N ≤ 15) (e : gI h 2 8 = nI N) (v : Int32) : ∃ r, bd (fX4_there v h) (fun r25 h24 => if r25 = 0 then (some ((0 : Int32), h24)) else (ck (inb v 15) (some ((gI h24 30 v.toNatClampNeg), h24)))) = some (r, h) := by
  unfold fX4_there
  by_cases c1 : v < 0
  · rw [if_pos c1, bd_s, if_pos rfl]; exact ⟨_, rfl⟩
  · rw [if_neg c1, e]
    by_cases c2 : nI N ≤ v
    · rw [if_pos c2, bd_s, if_pos rfl]; exact ⟨_, rfl⟩
    · obtain ⟨j, j1, rfl⟩ := nI_of c1
      have : j < N := by
        by_cases z : j < N
        · exact z
        · exact absurd (nI_le (by omega) j1) c2
      rw [if_neg c2, bd_s, if_neg (by decide), inb_n (show j < 15 by omega) (by omega), ck_t]
      exact ⟨_, rfl⟩
theorem c_at (T : TC 14 h ch) (Z : ZZ ch) (V : EC h E) {a : Nat} (ha : a ≤ 60) (gs : Int32 → HS → Option (Int32 × HS)) {x : Int32} (x1 : SC x (ch a)) (nd : ¬ ((48 : Int32) ≤ ch a ∧ ch a ≤ 57)) : CS 14 h E (a + 1) (fX1_thing_67 gs x (pI h 14 2 (nI a))) (pAt ch a) := by
  unfold fX1_thing_67 pAt
  rw [if_neg nd]
  by_cases c1 : ch a = 110
  · have l := ZZ_l Z c1 (by decide)
    rw [if_pos ((sg_eq x1 (by decide)).mpr c1), if_pos c1, nm_e1, g22, nI_1, pI_pI]
    rcases c_load T Z (M := 15) (a := a + 1) (by omega) (by omega) with ⟨f, e1, e2, v, y, e3⟩ | ⟨v, e, e1, e2, e3, e4, e5⟩
    · rw [e1, show (16 : Int32) = nI (15 + 1) by decide, e3, bd_s]
      obtain ⟨⟨N, n1, n2⟩, -⟩ := V
      obtain ⟨r, er⟩ := t_some (h := pI (pI h 14 2 (nI y)) 14 3 (nI f)) n1 (by rw [gI_pI, if_neg (by decide), gI_pI, if_neg (by decide)]; exact n2) v
      exact Or.inl ⟨f, rfl, e2, r, y, er⟩
    · rw [e1, show (16 : Int32) = nI (15 + 1) by decide, e5, bd_s, (V.2 e (by omega)).2 v e2]
      exact Or.inr ⟨_, _, rfl, by omega, e4, rfl⟩
  · rw [if_neg (fun z => c1 ((sg_eq x1 (by decide)).mp z)), if_neg c1]
    have q : ∀ p : Int32, ch a = p → (0 : Int32) ≤ p ∧ p ≤ 127 → a < 60 ∧ x = p := fun p e hp => ⟨ZZ_l Z e hp.1, (sg_eq x1 hp).mpr e⟩
    have fin : ∀ p : Int32, ch a = p → (0 : Int32) ≤ p ∧ p ≤ 127 → (p = 104 ∨ p = 109 ∨ p = 108 ∨ p = 100 ∨ p = 119) → CS 14 h E (a + 1) (fX1_thing_167 gs x (pI h 14 2 (nI a))) (.inr (fun E => E.2 (ch a), a + 1)) := by
      intro p e hp hq
      obtain ⟨l, ex⟩ := q p e hp
      refine Or.inr ⟨_, _, rfl, Nat.le_refl _, by omega, ?_⟩
      unfold fX1_thing_167
      rw [nm_e1, g22, nI_1, pI_pI, ex, e, (V.2 (a + 1) (by omega)).1 p hq, bd_s]
    have st : ∀ p : Int32, (0 : Int32) ≤ p ∧ p ≤ 127 → ¬ ch a = p → ¬ x = p := fun p hp e z => e ((sg_eq x1 hp).mp z)
    by_cases c2 : ch a = 104
    · rw [if_pos (q _ c2 (by decide)).2, if_pos (Or.inl c2)]
      exact fin _ c2 (by decide) (by decide)
    · rw [if_neg (st _ (by decide) c2)]
      by_cases c3 : ch a = 109
      · rw [if_pos (q _ c3 (by decide)).2, if_pos (Or.inr (Or.inl c3))]
        exact fin _ c3 (by decide) (by decide)
      · rw [if_neg (st _ (by decide) c3)]
        by_cases c4 : ch a = 108
        · rw [if_pos (q _ c4 (by decide)).2, if_pos (Or.inr (Or.inr (Or.inl c4)))]
          exact fin _ c4 (by decide) (by decide)
        · rw [if_neg (st _ (by decide) c4)]
          by_cases c5 : ch a = 100
          · rw [if_pos (q _ c5 (by decide)).2, if_pos (Or.inr (Or.inr (Or.inr (Or.inl c5))))]
            exact fin _ c5 (by decide) (by decide)
          · rw [if_neg (st _ (by decide) c5)]
            by_cases c6 : ch a = 119
            · rw [if_pos (q _ c6 (by decide)).2, if_pos (Or.inr (Or.inr (Or.inr (Or.inr c6))))]
              exact fin _ c6 (by decide) (by decide)
            · rw [if_neg (st _ (by decide) c6), if_neg (by rintro (z | z | z | z | z) <;> contradiction), g22, c_fail T, bv_s]
              exact Or.inl ⟨a, rfl, ha, _, _, rfl⟩
/-- all the signs before a thing -/
theorem c_m13 (T : TC 14 h ch) (Z : ZZ ch) {g : Int32 → HS → Option (Int32 × HS)} {v1 : Int32} {d lo : Nat} (K : Int32 → Int32 → Int32 → HS → Option (Int32 × HS)) (v3 : Int32) : ∀ (n : Nat), (∀ n' a, n' ≤ n → lo ≤ a → 61 ≤ n' + a → a ≤ 60 → ¬ ch a = 45 → CS 14 h E (a + 1) (g v1 (pI h 14 2 (nI a))) (pTh ch n' d a)) → ∀ (a j : Nat) (v2 : Int32) (w : Nat), lo ≤ a → 61 ≤ n + a → a ≤ 60 → j ≤ a → n < w → (∃ f, pTh ch n d a = .inl f ∧ f ≤ 60 ∧ ∃ r x, fX1_product_13 g K w v1 v2 v3 (nI j) (pI h 14 2 (nI a)) = some (r, pI (pI h 14 2 (nI x)) 14 3 (nI f))) ∨ (∃ r e, pTh ch n d a = .inr (r, e) ∧ a + 1 ≤ e ∧ e ≤ 60 ∧ fX1_product_13 g K w v1 v2 v3 (nI j) (pI h 14 2 (nI a)) = if ch e = 42 then K v1 (v2 * r E) (v3 + 1) (pI h 14 2 (nI (e + 1))) else some (v2 * r E, pI h 14 2 (nI e))) := by
  intro n
  induction n with
  | zero => intro _ a j v2 w h1 h2 h3; omega
  | succ n ih =>
    intro G a j v2 w h1 h2 h3 h4 hw
    obtain ⟨w', rfl⟩ := fuel1 hw
    have dir : ¬ ch a = 45 → (∃ f, pTh ch (n + 1) d a = .inl f ∧ f ≤ 60 ∧ ∃ r x, fX1_product_41 g K v1 v2 v3 (pI h 14 2 (nI a)) = some (r, pI (pI h 14 2 (nI x)) 14 3 (nI f))) ∨ (∃ r e, pTh ch (n + 1) d a = .inr (r, e) ∧ a + 1 ≤ e ∧ e ≤ 60 ∧ fX1_product_41 g K v1 v2 v3 (pI h 14 2 (nI a)) = if ch e = 42 then K v1 (v2 * r E) (v3 + 1) (pI h 14 2 (nI (e + 1))) else some (v2 * r E, pI h 14 2 (nI e))) := by
      intro nc
      unfold fX1_product_41
      rcases G (n + 1) a (Nat.le_refl _) h1 h2 h3 nc with ⟨f, e1, e2, v', x, e3⟩ | ⟨r, e, e1, e2, e3, e4⟩
      · have B := bdC_p (A := 14) (h := h) (x := nI x) e2
        rw [e3, bd_s, nm_e1, d_take B (by decide), bd_s, if_pos rfl]
        exact Or.inl ⟨f, e1, e2, _, _, rfl⟩
      · refine Or.inr ⟨r, e, e1, e2, e3, ?_⟩
        rw [e4, bd_s, nm_e1, c_take T (by omega) (by decide)]
        by_cases c : ch e = 42
        · rw [if_pos c, if_pos c, bd_s, if_neg (by decide), nm_e1]
        · rw [if_neg c, if_neg c, bd_s, if_pos rfl]
    rw [fX1_product_13, show (60 : Int32) = nI 60 by decide]
    by_cases c0 : 60 ≤ j
    · rw [if_pos (nI_le c0 (by omega))]
      exact dir (by rw [Z a (by omega)]; decide)
    · rw [if_neg (nI_ge (by omega) (by omega)), c_take T (by omega) (by decide)]
      by_cases c : ch a = 45
      · have l := ZZ_l Z c (by decide)
        rw [if_pos c, bd_s, if_neg (by decide), nm_e1, nm_e1, nI_1, pTh, if_pos c]
        rcases ih (fun n' b y1 y2 => G n' b (by omega) y2) (a + 1) (j + 1) (-v2) w' (by omega) (by omega) (by omega) (by omega) (by omega) with ⟨f, e1, e2, r, x, e3⟩ | ⟨r, e, e1, e2, e3, e4⟩
        · rw [e1, e3]
          exact Or.inl ⟨f, rfl, e2, _, _, rfl⟩
        · rw [e1, e4]
          refine Or.inr ⟨_, e, rfl, by omega, e3, ?_⟩
          rw [show -v2 * r E = v2 * -(r E) by grind]
      · rw [if_neg c, bd_s, if_pos rfl]
        exact dir c
theorem c_p4 (T : TC 14 h ch) (Z : ZZ ch) {g : Int32 → HS → Option (Int32 × HS)} {v1 : Int32} {d lo n : Nat} (hn : n ≤ 70) (G : ∀ n' a, n' ≤ n → lo ≤ a → 61 ≤ n' + a → a ≤ 60 → ¬ ch a = 45 → CS 14 h E (a + 1) (g v1 (pI h 14 2 (nI a))) (pTh ch n' d a)) : ∀ (k a j : Nat) (u : PEnv → Int32) (w : Nat), lo ≤ a → 61 ≤ n + lo → 61 ≤ k + a → a ≤ 60 → 2 * j ≤ a → k < w → CS 14 h E (a + 1) (fX1_product_4 g w v1 (u E) (nI j) (pI h 14 2 (nI a))) (pB (pTh ch n d a) (fun r e => pLp ch (pTh ch n d) k (fun E => u E * r E) e)) := by
  intro k
  induction k with
  | zero => intro a j u w h1 h2 h3 h4; omega
  | succ k ih =>
    intro a j u w h1 h2 h3 h4 h5 hw
    obtain ⟨w', rfl⟩ := fuel1 hw
    rw [fX1_product_4, show (60 : Int32) = nI 60 by decide, if_neg (nI_ge (by omega) (by omega))]
    have := c_m13 (E := E) T Z (fX1_product_4 g w') (nI j) n G a 0 (u E) FU h1 (by omega) h4 (by omega) (FU_gt (by omega))
    rw [nI_0] at this
    rcases this with ⟨f, e1, e2, r, x, e3⟩ | ⟨r, e, e1, e2, e3, e4⟩
    · rw [e1, pB, e3]
      exact Or.inl ⟨f, rfl, e2, _, _, rfl⟩
    · rw [e1, pB, e4]
      show CS 14 h E (a + 1) _ (pLp ch (pTh ch n d) (k + 1) (fun E => u E * r E) e)
      rw [pLp]
      by_cases c : ch e = 42
      · have l := ZZ_l Z c (by decide)
        rw [if_pos c, if_pos c, nI_1]
        rcases ih (e + 1) (j + 1) (fun E => u E * r E) w' (by omega) h2 (by omega) (by omega) (by omega) (by omega) with q | ⟨g', e', q1, q2, q3, q4⟩
        · exact Or.inl q
        · exact Or.inr ⟨g', e', q1, by omega, q3, q4⟩
      · rw [if_neg c, if_neg c]
        exact Or.inr ⟨_, e, rfl, e2, e3, rfl⟩
theorem c_pr (T : TC 14 h ch) (Z : ZZ ch) {g : Int32 → HS → Option (Int32 × HS)} {v1 : Int32} {d lo n : Nat} (hn : n ≤ 70) (G : ∀ n' a, n' ≤ n → lo ≤ a → 61 ≤ n' + a → a ≤ 60 → ¬ ch a = 45 → CS 14 h E (a + 1) (g v1 (pI h 14 2 (nI a))) (pTh ch n' d a)) (h2 : 61 ≤ n + lo) : ∀ a, lo ≤ a → a ≤ 60 → CS 14 h E (a + 1) (fX1_product g v1 (pI h 14 2 (nI a))) (pPr ch (pTh ch n d) a) := by
  intro a h1 h3
  have := c_p4 T Z hn G 70 a 0 (fun _ => 1) FU h1 h2 (by omega) h3 (by omega) (FU_gt (by omega))
  rw [nI_0] at this
  unfold fX1_product pPr
  have e : (fun (r : PEnv → Int32) (e : Nat) => pLp ch (pTh ch n d) 70 (fun E => 1 * r E) e) = (fun r e => pLp ch (pTh ch n d) 70 r e) := by
    funext r e
    congr 1
    funext E
    exact Int32.one_mul _
  rw [← e]
  exact this
theorem c_ls (T : TC 14 h ch) (Z : ZZ ch) {g : Int32 → HS → Option (Int32 × HS)} {v1 : Int32} {pr : Nat → PX} {lo : Nat} (G : ∀ a, lo ≤ a → a ≤ 60 → CS 14 h E (a + 1) (g v1 (pI h 14 2 (nI a))) (pr a)) : ∀ (k a j : Nat) (v : PEnv → Int32) (n : Nat), lo ≤ a → 61 ≤ k + a → a ≤ 60 → 2 * j ≤ a → k < n → CS 14 h E a (fX1_expression_8 g n v1 (v E) (nI j) (pI h 14 2 (nI a))) (pLs ch pr k v a) := by
  intro k
  induction k with
  | zero => intro a j v n h1 h2 h3; omega
  | succ k ih =>
    intro a j v n h1 h2 h3 h4 hn
    obtain ⟨m, rfl⟩ := fuel1 hn
    obtain ⟨m', rfl⟩ := fuel1 (show k < m by omega)
    have bad : ∀ (f : Nat) (v2 : Int32) (x : Nat) (i : Int32), f ≤ 60 → ∃ r, fX1_expression_8 g (m' + 1) v1 v2 i (pI (pI h 14 2 (nI x)) 14 3 (nI f)) = some (r, pI (pI h 14 2 (nI x)) 14 3 (nI f)) := fun f v2 x i hf => by
      have B := bdC_p (A := 14) (h := h) (x := nI x) hf
      rw [fX1_expression_8, d_take B (by decide), bd_s, if_pos rfl, d_take B (by decide), bd_s, if_pos rfl, ite_self]
      exact ⟨_, rfl⟩
    rw [fX1_expression_8, show (60 : Int32) = nI 60 by decide, if_neg (nI_ge (by omega) (by omega)), c_take T (by omega) (by decide), pLs]
    by_cases c : ch a = 43
    · have l := ZZ_l Z c (by decide)
      rw [if_pos c, if_pos c, bd_s, if_neg (by decide)]
      rcases G (a + 1) (by omega) (by omega) with ⟨f, e1, e2, v', x, e3⟩ | ⟨r, e, e1, e2, e3, e4⟩
      · rw [e1, pB, e3, bd_s, nm_e1, nm_e1]
        obtain ⟨r, er⟩ := bad f (v E + v') x (nI j + 1) e2
        exact Or.inl ⟨f, rfl, e2, _, _, er⟩
      · rw [e1, pB, e4, bd_s, nm_e1, nm_e1, nI_1]
        rcases ih e (j + 1) (fun E => v E + r E) (m' + 1) (by omega) (by omega) e3 (by omega) (by omega) with q | ⟨g', e', q1, q2, q3, q4⟩
        · exact Or.inl q
        · exact Or.inr ⟨g', e', q1, by omega, q3, q4⟩
    · rw [if_neg c, if_neg c, bd_s, if_pos rfl, c_take T (by omega) (by decide)]
      by_cases c2 : ch a = 45
      · have l := ZZ_l Z c2 (by decide)
        rw [if_pos c2, if_pos c2, bd_s, if_neg (by decide)]
        rcases G (a + 1) (by omega) (by omega) with ⟨f, e1, e2, v', x, e3⟩ | ⟨r, e, e1, e2, e3, e4⟩
        · rw [e1, pB, e3, bd_s, nm_e1, nm_e1]
          obtain ⟨r, er⟩ := bad f (v E - v') x (nI j + 1) e2
          exact Or.inl ⟨f, rfl, e2, _, _, er⟩
        · rw [e1, pB, e4, bd_s, nm_e1, nm_e1, nI_1]
          rcases ih e (j + 1) (fun E => v E - r E) (m' + 1) (by omega) (by omega) e3 (by omega) (by omega) with q | ⟨g', e', q1, q2, q3, q4⟩
          · exact Or.inl q
          · exact Or.inr ⟨g', e', q1, by omega, q3, q4⟩
      · rw [if_neg c2, if_neg c2, bd_s, if_pos rfl]
        exact Or.inr ⟨v, a, rfl, Nat.le_refl _, h3, rfl⟩
theorem c_sm (T : TC 14 h ch) (Z : ZZ ch) {g : Int32 → HS → Option (Int32 × HS)} {v1 : Int32} {pr : Nat → PX} {lo : Nat} (G : ∀ a, lo ≤ a → a ≤ 60 → CS 14 h E (a + 1) (g v1 (pI h 14 2 (nI a))) (pr a)) : ∀ a, lo ≤ a → a ≤ 60 → CS 14 h E (a + 1) (fX1_expression g v1 (pI h 14 2 (nI a))) (pSm ch pr a) := by
  intro a h1 h2
  unfold fX1_expression pSm
  rcases G a h1 h2 with ⟨f, e1, e2, v', x, e3⟩ | ⟨r, e, e1, e2, e3, e4⟩
  · have B := bdC_p (A := 14) (h := h) (x := nI x) e2
    obtain ⟨u, eu⟩ := fuel1 (FU_gt (show 0 < 40000 by omega))
    rw [e1, pB, e3, bd_s, eu, fX1_expression_8, d_take B (by decide), bd_s, if_pos rfl, d_take B (by decide), bd_s, if_pos rfl, ite_self]
    exact Or.inl ⟨f, rfl, e2, _, _, rfl⟩
  · rw [e1, pB, e4, bd_s]
    have := c_ls T Z G 70 e 0 r FU (by omega) (by omega) e3 (by omega) (FU_gt (by omega))
    rw [nI_0] at this
    rcases this with q | ⟨g', e', q1, q2, q3, q4⟩
    · exact Or.inl q
    · exact Or.inr ⟨g', e', q1, by omega, q3, q4⟩
theorem c_th (T : TC 14 h ch) (Z : ZZ ch) (V : EC h E) : ∀ (n : Nat), n ≤ 70 → ∀ (n' m d a : Nat), n' ≤ n → d ≤ 4 → 5 ≤ m + d → 61 ≤ n' + a → a ≤ 60 → ¬ ch a = 45 → CS 14 h E (a + 1) (rX1_thing m (nI d) (pI h 14 2 (nI a))) (pTh ch n' d a) := by
  intro n
  induction n with
  | zero => intro _ n' m d a h0 hd hm h1 h2; omega
  | succ n ih =>
    intro h70 n' m d a h0 hd hm h1 h2 nc
    by_cases hn : n' ≤ n
    · exact ih (by omega) n' m d a hn hd hm h1 h2 nc
    · have : n' = n + 1 := by omega
      subst this
      obtain ⟨m', rfl⟩ : ∃ m', m = m' + 1 := ⟨m - 1, by omega⟩
      obtain ⟨x, x1, x2⟩ := T.2 a (by omega)
      rw [rX1_thing, pTh, if_neg nc]
      unfold fX1_thing
      rw [x2, bd_s, f_dig, bd_s, if10s]
      by_cases c : (48 : Int32) ≤ ch a ∧ ch a ≤ 57
      · have n40 : ¬ (ch a = 40 ∧ d < 4) := fun z => by rw [z.1] at c; exact absurd c.1 (by decide)
        rw [if_pos ((sc_dg x1).mpr c), if_neg n40]
        unfold pAt
        rw [if_pos c]
        rcases c_num T Z (D := 4) (M := 9999) (by omega) (by decide) h2 with ⟨f, e1, e2, y, e3⟩ | ⟨v, e, e1, e2, e3, e4, e5⟩
        · rw [e1, show (4 : Int32) = nI 4 by decide, e3, bd_s]
          exact Or.inl ⟨f, rfl, e2, _, _, rfl⟩
        · rw [e1, show (4 : Int32) = nI 4 by decide, e5, bd_s]
          exact Or.inr ⟨_, _, rfl, by omega, e4, rfl⟩
      · rw [if_neg (fun z => c ((sc_dg x1).mp z))]
        by_cases c2 : ch a = 40
        · have l := ZZ_l Z c2 (by decide)
          rw [if_pos ((sg_eq x1 (by decide)).mpr c2), show (4 : Int32) = nI 4 by decide]
          by_cases c3 : d < 4
          · rw [if_neg (nI_ge c3 (by omega)), if_pos ⟨c2, c3⟩, nm_e1, g22, nI_1, pI_pI, nI_1]
            rcases c_sm T Z (c_pr T Z (d := d + 1) (lo := a + 1) (n := n) (by omega) (fun n2 b y0 y1 y2 y3 y4 => ih (by omega) n2 m' (d + 1) b y0 (by omega) (by omega) y2 y3 y4) (by omega)) (a + 1) (Nat.le_refl _) (by omega) with ⟨f, e1, e2, v', x, e3⟩ | ⟨r, e, e1, e2, e3, e4⟩
            · have B := bdC_p (A := 14) (h := h) (x := nI x) e2
              rw [e1, pB, e3, bd_s, d_exp B (by decide), bv_s]
              exact Or.inl ⟨f, rfl, e2, _, _, rfl⟩
            · rw [e1, pB, e4, bd_s, c_exp T (by omega) (by decide)]
              by_cases c4 : ch e = 41
              · have l2 := ZZ_l Z c4 (by decide)
                rw [if_pos c4, bv_s]
                exact Or.inr ⟨r, e + 1, by rw [if_pos c4], by omega, by omega, rfl⟩
              · rw [if_neg c4, bv_s]
                exact Or.inl ⟨e, by rw [if_neg c4], e3, _, _, rfl⟩
          · rw [if_pos (nI_le (by omega) (by omega)), if_neg (fun z => c3 z.2)]
            exact c_at T Z V h2 _ x1 c
        · rw [if_neg (fun z => c2 ((sg_eq x1 (by decide)).mp z)), if_neg (fun z => c2 z.1)]
          exact c_at T Z V h2 _ x1 c
theorem c_E (T : TC 14 h ch) (Z : ZZ ch) (V : EC h E) {a : Nat} (ha : a ≤ 60) : CS 14 h E (a + 1) (gX1_expression 0 (pI h 14 2 (nI a))) (pE ch a) := by
  have := c_sm T Z (c_pr T Z (d := 0) (lo := 0) (n := 70) (by omega) (fun n2 b y0 _ y2 y3 y4 => c_th T Z V 70 (by omega) n2 6 0 b y0 (by omega) (by omega) y2 y3 y4) (by omega)) a (by omega) ha
  rw [nI_0] at this
  exact this
end PARD
