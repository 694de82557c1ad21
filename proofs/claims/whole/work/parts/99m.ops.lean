section MRK
theorem m69 {K : Int32 → HS → Option HS} {h : HS} {p c : Nat} {T : Int32} (h1 : 1 ≤ p) (h2 : p < 60) (hc : c < 15) (e5 : gI h 5 5 = nI c) : fX1_markLines_69 K (nI p) T h = K (nI (p + 1)) (pI (pI (pI h 37 c (T * 10 + gI h 36 (p - 1) - 48)) 38 c (nI (p + 1))) 5 5 (nI (c + 1))) := by
  have s1 : nI p - 1 = nI (p - 1) := by rw [show (1 : Int32) = nI 1 by decide, pk_sub (by omega)]
  unfold fX1_markLines_69
  rw [s1, inb_n (show p - 1 < 60 by omega) (by omega), ck_t, e5, inb_n (show c < 15 by omega) (by omega), ck_t, nI_clamp (show p - 1 < 2 ^ 31 by omega), nI_clamp (show c < 2 ^ 31 by omega)]
  simp only [nm_e1, nI_1]
  have g1 : ∀ v, gI (pI h 37 c v) 5 5 = nI c := fun v => by rw [gI_pI, if_neg (by omega), e5]
  have g2 : ∀ v w, gI (pI (pI h 37 c v) 38 c w) 5 5 = nI c := fun v w => by rw [gI_pI, if_neg (by omega), g1]
  simp only [g1, inb_n (show c < 15 by omega) (show 15 < 2 ^ 31 by omega), ck_t, nI_clamp (show c < 2 ^ 31 by omega), g2, nI_1]
theorem m7_hit {h : HS} {p c s w : Nat} {x : Nat → Int32} (h1 : 1 ≤ p) (h2 : p < s) (hs : s ≤ 60) (hc : c < 15) (e4 : gI h 5 4 = nI s) (e5 : gI h 5 5 = nI c) (hx : ∀ j, j < s → gI h 36 j = x j) (c61 : x p = 61) : fX1_markLines_7 (w + 1) (nI p) h = fX1_markLines_7 w (nI (p + 1)) (pI (pI (pI h 37 c (ldV x p)) 38 c (nI (p + 1))) 5 5 (nI (c + 1))) := by
  have g1 : gI h 36 (p - 1) = x (p - 1) := hx (p - 1) (by omega)
  have e2 : (2 : Int32) = nI 2 := by decide
  rw [fX1_markLines_7, e4, if_neg (nI_ge (by omega) (by omega)), inb_n (show p < 60 by omega) (by omega), ck_t, nI_clamp (by omega), hx p h2, if_pos c61, e5, show (15 : Int32) = nI 15 by decide, if_neg (nI_ge (by omega) (by omega)), e2]
  by_cases p2 : p < 2
  · rw [if_pos (nI_lt p2 (by omega))]
    unfold fX1_markLines_68
    rw [m69 h1 (by omega) hc e5, g1]
    unfold ldV
    rw [if_neg (by omega)]
  · rw [if_neg (nI_nlt (by omega) (by omega)), pk_sub (by omega), inb_n (show p - 2 < 60 by omega) (by omega), ck_t, nI_clamp (by omega), hx (p - 2) (by omega), f_dig, bd_s, if10s]
    by_cases d : (48 : Int32) ≤ x (p - 2) ∧ x (p - 2) ≤ 57
    · rw [if_pos d, hx (p - 2) (by omega), ck_t, m69 h1 (by omega) hc e5, g1]
      unfold ldV
      rw [if_pos ⟨by omega, d⟩]
    · rw [if_neg d]
      unfold fX1_markLines_68
      rw [m69 h1 (by omega) hc e5, g1]
      unfold ldV
      rw [if_neg (fun z => d z.2)]
theorem m7_miss {h : HS} {p s w : Nat} {x : Nat → Int32} (h2 : p < s) (hs : s ≤ 60) (e4 : gI h 5 4 = nI s) (hx : ∀ j, j < s → gI h 36 j = x j) (c61 : ¬ x p = 61) : fX1_markLines_7 (w + 1) (nI p) h = fX1_markLines_7 w (nI (p + 1)) h := by
  rw [fX1_markLines_7, e4, if_neg (nI_ge (by omega) (by omega)), inb_n (show p < 60 by omega) (by omega), ck_t, nI_clamp (by omega), hx p h2, if_neg c61, nm_e1, nI_1]
theorem mk_loop {s : Nat} {x : Nat → Int32} (hs : s ≤ 60) : ∀ (k p c w : Nat) (h : HS), (p + k = s ∨ (k = 0 ∧ s ≤ p)) → p ≤ 61 → 1 ≤ p → k < w → gI h 5 4 = nI s → gI h 5 5 = nI c → (∀ j, j < s → gI h 36 j = x j) → c + (mkL x k p).length ≤ 15 → ∃ h', fX1_markLines_7 w (nI p) h = some h' ∧ gI h' 5 5 = nI (c + (mkL x k p).length) ∧ (∀ b j, ¬ (b = 5 ∧ j = 5) → ¬ b = 37 → ¬ b = 38 → gI h' b j = gI h b j) ∧ (∀ i, i < c → gI h' 37 i = gI h 37 i ∧ gI h' 38 i = gI h 38 i) ∧ ∀ i l q, (mkL x k p)[i]? = some (l, q) → gI h' 37 (c + i) = l ∧ gI h' 38 (c + i) = nI q := by
  intro k
  induction k with
  | zero =>
    intro p c w h hp hp2 h1 hw e4 e5 hx hl
    obtain ⟨w', rfl⟩ := fuel1 hw
    refine ⟨h, by rw [fX1_markLines_7, e4, if_pos (nI_le (by omega) (by omega))], e5, fun _ _ _ _ _ => rfl, fun _ _ => ⟨rfl, rfl⟩, fun i l q e => ?_⟩
    rw [mkL, List.getElem?_nil] at e
    cases e
  | succ k ih =>
    intro p c w h hp hp2 h1 hw e4 e5 hx hl
    obtain ⟨w', rfl⟩ := fuel1 hw
    by_cases c61 : x p = 61
    · have em : mkL x (k + 1) p = (ldV x p, p + 1) :: mkL x k (p + 1) := by rw [mkL, if_pos c61]
      rw [em, List.length_cons] at hl
      obtain ⟨h2, eh⟩ : ∃ y, y = pI (pI (pI h 37 c (ldV x p)) 38 c (nI (p + 1))) 5 5 (nI (c + 1)) := ⟨_, rfl⟩
      have G : ∀ b j, gI h2 b j = if b = 5 ∧ j = 5 then nI (c + 1) else if b = 38 ∧ j = c then nI (p + 1) else if b = 37 ∧ j = c then ldV x p else gI h b j := fun b j => by rw [eh, gI_pI, gI_pI, gI_pI]
      obtain ⟨h', a1, a2, a3, a4, a5⟩ := ih (p + 1) (c + 1) w' h2 (by omega) (by omega) (by omega) (by omega) (by rw [G, if_neg (by omega), if_neg (by omega), if_neg (by omega), e4]) (by rw [G, if_pos ⟨rfl, rfl⟩]) (fun j hj => by rw [G, if_neg (by omega), if_neg (by omega), if_neg (by omega), hx j hj]) (by omega)
      refine ⟨h', ?_, ?_, fun b j z1 z2 z3 => ?_, fun i hi => ?_, fun i l q e => ?_⟩
      · rw [m7_hit h1 (by omega) hs (by omega) e4 e5 hx c61, ← eh]
        exact a1
      · rw [a2, em, List.length_cons]
        congr 1
        omega
      · rw [a3 b j z1 z2 z3, G, if_neg z1, if_neg (fun z => z3 z.1), if_neg (fun z => z2 z.1)]
      · obtain ⟨b1, b2⟩ := a4 i (by omega)
        rw [b1, b2, G, G]
        refine ⟨?_, ?_⟩
        · rw [if_neg (by omega), if_neg (by omega), if_neg (by omega)]
        · rw [if_neg (by omega), if_neg (by omega), if_neg (by omega)]
      · rw [em] at e
        cases i with
        | zero =>
          rw [List.getElem?_cons_zero] at e
          have e' := Option.some.inj e
          have e1 : ldV x p = l := congrArg Prod.fst e'
          have e2 : p + 1 = q := congrArg Prod.snd e'
          obtain ⟨b1, b2⟩ := a4 c (by omega)
          rw [Nat.add_zero, b1, b2, G, G, ← e1, ← e2]
          refine ⟨?_, ?_⟩
          · rw [if_neg (by omega), if_neg (by omega), if_pos ⟨rfl, rfl⟩]
          · rw [if_neg (by omega), if_pos ⟨rfl, rfl⟩]
        | succ i =>
          rw [List.getElem?_cons_succ] at e
          have := a5 i l q e
          rw [show c + (i + 1) = c + 1 + i by omega]
          exact this
    · have em : mkL x (k + 1) p = mkL x k (p + 1) := by rw [mkL, if_neg c61]
      rw [em] at hl
      rw [m7_miss (by omega) hs e4 hx c61, em]
      exact ih (p + 1) c w' h (by omega) (by omega) (by omega) (by omega) e4 e5 hx hl
/-- the model copies a text -/
theorem b128 {v1 : Int32} {s : Nat} (hs : s ≤ 60) : ∀ (k i w : Nat) (h : HS), i + k = s → k < w → gI h 0 27 = nI s → ∃ h', fX12_book_128 w v1 (nI i) h = fX12_book_164 FU v1 0 (pI h' 0 32 (nI s)) ∧ (∀ b j, ¬ b = 12 → gI h' b j = gI h b j) ∧ ∀ j, gI h' 12 j = if i ≤ j ∧ j < s then (gI h 9 j).toInt8.toInt32 else gI h 12 j := by
  intro k
  induction k with
  | zero =>
    intro i w h hi hw e27
    obtain ⟨w', rfl⟩ := fuel1 hw
    refine ⟨h, by rw [fX12_book_128, e27, if_pos (nI_le (by omega) (by omega)), nm_e1], fun _ _ _ => rfl, fun j => by rw [if_neg (by omega)]⟩
  | succ k ih =>
    intro i w h hi hw e27
    obtain ⟨w', rfl⟩ := fuel1 hw
    obtain ⟨h', a1, a2, a3⟩ := ih (i + 1) w' (pI h 12 i (gI h 9 i).toInt8.toInt32) (by omega) (by omega) (by rw [gI_pI, if_neg (by omega), e27])
    refine ⟨h', ?_, fun b j z => by rw [a2 b j z, gI_pI, if_neg (fun y => z y.1)], fun j => ?_⟩
    · rw [fX12_book_128, e27, if_neg (nI_ge (by omega) (by omega)), inb_n (show i < 80 by omega) (by omega), ck_t, inb_n (show i < 60 by omega) (by omega), ck_t, nI_clamp (by omega), nm_e1, nm_e1, nI_1]
      exact a1
    · rw [a3 j, gI_pI, gI_pI]
      by_cases z : j = i
      · subst z
        rw [if_neg (by omega), if_pos ⟨rfl, rfl⟩, if_pos (by omega)]
      · rw [if_neg (show ¬ (9 = 12 ∧ j = i) by omega), if_neg (show ¬ (12 = 12 ∧ j = i) by omega)]
        by_cases y : i ≤ j ∧ j < s
        · rw [if_pos y, if_pos (by omega)]
        · rw [if_neg y, if_neg (by omega)]
theorem b164 {q : Nat} (hq : q ≤ 15) : ∀ (k i w : Nat) (h : HS), i + k = q → k < w → ∃ h', fX12_book_164 w (nI q) (nI i) h = some (nI q, pI h' 0 31 (nI q)) ∧ (∀ b j, ¬ b = 13 → ¬ b = 14 → gI h' b j = gI h b j) ∧ ∀ j, gI h' 13 j = (if i ≤ j ∧ j < q then gI h 15 j else gI h 13 j) ∧ gI h' 14 j = if i ≤ j ∧ j < q then gI h 16 j else gI h 14 j := by
  intro k
  induction k with
  | zero =>
    intro i w h hi hw
    obtain ⟨w', rfl⟩ := fuel1 hw
    refine ⟨h, by rw [fX12_book_164, if_pos (nI_le (by omega) (by omega)), nm_e1], fun _ _ _ _ => rfl, fun j => ⟨by rw [if_neg (by omega)], by rw [if_neg (by omega)]⟩⟩
  | succ k ih =>
    intro i w h hi hw
    obtain ⟨w', rfl⟩ := fuel1 hw
    obtain ⟨h2, eh⟩ : ∃ y, y = pI (pI h 13 i (gI h 15 i)) 14 i (gI h 16 i) := ⟨_, rfl⟩
    have G : ∀ b j, gI h2 b j = if b = 14 ∧ j = i then gI h 16 i else if b = 13 ∧ j = i then gI h 15 i else gI h b j := fun b j => by rw [eh, gI_pI, gI_pI]
    obtain ⟨h', a1, a2, a3⟩ := ih (i + 1) w' h2 (by omega) (by omega)
    refine ⟨h', ?_, fun b j z1 z2 => by rw [a2 b j z1 z2, G, if_neg (fun y => z2 y.1), if_neg (fun y => z1 y.1)], fun j => ?_⟩
    · rw [fX12_book_164, if_neg (nI_ge (by omega) (by omega)), inb_n (show i < 16 by omega) (by omega), ck_t, ck_t, nI_clamp (by omega), nm_e1, ck_t, ck_t, nm_e1, nm_e1, nI_1, gI_pI h 13 i _ 16 i, if_neg (by omega), ← eh]
      exact a1
    · obtain ⟨b1, b2⟩ := a3 j
      rw [b1, b2, G, G, G, G]
      by_cases z : j = i
      · subst z
        have n1 : ¬ (j + 1 ≤ j ∧ j < q) := by omega
        have n2 : j ≤ j ∧ j < q := by omega
        rw [if_neg n1, if_neg n1, if_pos n2, if_pos n2]
        refine ⟨?_, ?_⟩
        · rw [if_neg (by omega), if_pos ⟨rfl, rfl⟩]
        · rw [if_pos ⟨rfl, rfl⟩]
      · have t : (i + 1 ≤ j ∧ j < q) ↔ (i ≤ j ∧ j < q) := by omega
        by_cases y : i ≤ j ∧ j < q
        · rw [if_pos (t.mpr y), if_pos (t.mpr y), if_pos y, if_pos y, if_neg (by omega), if_neg (by omega), if_neg (by omega), if_neg (by omega)]
          exact ⟨rfl, rfl⟩
        · rw [if_neg (fun z => y (t.mp z)), if_neg (fun z => y (t.mp z)), if_neg y, if_neg y, if_neg (by omega), if_neg (by omega), if_neg (by omega), if_neg (by omega)]
          exact ⟨rfl, rfl⟩
end MRK
