section BOO2
variable {h : HS} {ch : Nat → Int32} {E : PEnv}
theorem pLn_r (Z : ZZ ch) (T : TC 14 h ch) (V : EC h E) {a l p e : Nat} (ha : a ≤ 60) (q : pLn ch a = .inr (l, p, e)) : l ≤ 15 ∧ a + 2 ≤ p ∧ p + 1 ≤ e ∧ e ≤ 60 ∧ ∃ g, pE ch p = .inr (g, e) := by
  rcases c_line T Z V ha with ⟨f, e1, -⟩ | ⟨l', p', e', e1, e2, e3, e4, e5, e6, -⟩
  · rw [e1] at q; cases q
  · rw [e1] at q
    cases q
    exact ⟨e2, e3, e4, e5, e6⟩
/-- the class reads a book -/
theorem c_rd (T : TC 14 h ch) (Z : ZZ ch) (V : EC h E) (p1 : Nat) (v2 : Int32) : ∀ (n a j w : Nat), 61 ≤ n + a → a ≤ 60 → 4 * j ≤ a → n < w → (∃ f x, pBk ch n a = .inl f ∧ f ≤ 60 ∧ bv (fX1_readLine (pI h 14 2 (nI a))) (fun h8 => fX1_read_25 p1 w v2 (nI j) h8) = fX1_read_53 p1 v2 (pI (pI h 14 2 (nI x)) 14 3 (nI f))) ∨ (∃ L e, pBk ch n a = .inr (L, e) ∧ a + 3 ≤ e ∧ e ≤ 60 ∧ 4 * L.length ≤ e + 1 - a ∧ bv (fX1_readLine (pI h 14 2 (nI a))) (fun h8 => fX1_read_25 p1 w v2 (nI j) h8) = fX1_read_53 p1 v2 (pI h 14 2 (nI e))) := by
  intro n
  induction n with
  | zero => intro a j w h1 h2; omega
  | succ n ih =>
    intro a j w h1 h2 h3 hw
    obtain ⟨w', rfl⟩ := fuel1 hw
    rw [pBk]
    rcases c_line T Z V h2 with ⟨f, e1, e2, x, e3⟩ | ⟨l, p, e, e1, e2, e3, e4, e5, e6, e7⟩
    · have B := bdC_p (A := 14) (h := h) (x := nI x) e2
      rw [e1, e3, bv_s, fX1_read_25, d_take B (by decide), bd_s, if_pos rfl, ite_self]
      exact Or.inl ⟨f, x, rfl, e2, rfl⟩
    · rw [e1, e7, bv_s, fX1_read_25, show (60 : Int32) = nI 60 by decide, if_neg (nI_ge (by omega) (by omega)), c_take T (by omega) (by decide)]
      simp only
      by_cases c : ch e = 59
      · have l2 := ZZ_l Z c (by decide)
        rw [if_pos c, if_pos c, bd_s, if_neg (by decide)]
        simp only [nm_e1, nI_1]
        rcases ih (e + 1) (j + 1) w' (by omega) (by omega) (by omega) (by omega) with ⟨f, x, q1, q2, q3⟩ | ⟨L, e', q1, q2, q3, q4, q5⟩
        · rw [q1]
          exact Or.inl ⟨f, x, rfl, q2, q3⟩
        · rw [q1]
          refine Or.inr ⟨(l, p) :: L, e', rfl, by omega, q3, ?_, q5⟩
          rw [List.length_cons]
          omega
      · rw [if_neg c, if_neg c, bd_s, if_pos rfl]
        refine Or.inr ⟨[(l, p)], e, rfl, by omega, e5, ?_, rfl⟩
        rw [List.length_singleton]
        omega
/-- states of the model that differ in the lines that it has read -/
def exB (h h' : HS) : Prop := h'.2 = h.2 ∧ ∀ b j, ¬ b = 15 → ¬ b = 16 → gI h' b j = gI h b j
theorem exB_r : exB h h := ⟨rfl, fun _ _ _ _ => rfl⟩
theorem exB_t {h1 h2 : HS} (a : exB h h1) (b : exB h1 h2) : exB h h2 := ⟨b.1.trans a.1, fun x j z1 z2 => (b.2 x j z1 z2).trans (a.2 x j z1 z2)⟩
theorem exB_p {c : Nat} {u v : Int32} : exB h (pI (pI h 15 c u) 16 c v) := ⟨rfl, fun b j z1 z2 => by rw [gI_pI, if_neg (fun y => z2 y.1), gI_pI, if_neg (fun y => z1 y.1)]⟩
theorem m_rd (Z : ZZ ch) : ∀ (n a c w : Nat) (h : HS), (∀ h', exB h h' → TM h' ch ∧ ∃ E, EM h' E) → 61 ≤ n + a → a ≤ 60 → 4 * c ≤ a → n + 1 < w → (∃ f k hF, pBk ch n a = .inl f ∧ f ≤ 60 ∧ fX12_book_39 w (nI c) 1 (pI h 0 29 (nI a)) = fX12_book_39 k (nI (c + 1)) 0 hF ∧ 0 < k ∧ gI hF 0 30 = nI f ∧ (∀ b j, ¬ b = 15 → ¬ b = 16 → ¬ (b = 0 ∧ (j = 29 ∨ j = 30)) → gI hF b j = gI h b j)) ∨ (∃ f k hF c', c ≤ c' ∧ pBk ch n a = .inl f ∧ f ≤ 60 ∧ fX12_book_39 w (nI c) 1 (pI h 0 29 (nI a)) = fX12_book_39 k (nI c') 0 hF ∧ 0 < k ∧ gI hF 0 30 = nI f ∧ (∀ b j, ¬ b = 15 → ¬ b = 16 → ¬ (b = 0 ∧ (j = 29 ∨ j = 30)) → gI hF b j = gI h b j)) ∨ (∃ L e k h', pBk ch n a = .inr (L, e) ∧ e ≤ 60 ∧ exB h h' ∧ 0 < k ∧ fX12_book_39 w (nI c) 1 (pI h 0 29 (nI a)) = fX12_book_39 k (nI (c + L.length)) 0 (pI h' 0 29 (nI e)) ∧ (∀ i, i < c → gI h' 15 i = gI h 15 i ∧ gI h' 16 i = gI h 16 i) ∧ ∀ i l p, L[i]? = some (l, p) → gI h' 15 (c + i) = nI p ∧ gI h' 16 (c + i) = nI l) := by
  intro n
  induction n with
  | zero => intro a c w h T h1 h2; omega
  | succ n ih =>
    intro a c w h KP h1 h2 h3 hw
    obtain ⟨w', rfl⟩ := fuel1 hw
    obtain ⟨T, E, V⟩ := KP h exB_r
    have c16 : c < 16 := by omega
    rw [fX12_book_39, if_neg (by decide), show (2 : Int32) = nI 2 by decide, show (15 : Int32) = nI 15 by decide, pBk, pLn]
    -- after a fault
    have bad : ∀ (f : Nat) (x : Nat) (r : Int32), f ≤ 60 → ∃ k hF, (ck (inb (nI c) 16) (nm (pI (pI (pI h 0 29 (nI x)) 0 30 (nI f)) 15 (nI c).toNatClampNeg (gI (pI (pI h 0 29 (nI x)) 0 30 (nI f)) 0 29)) (fun h11 => ck (inb (nI c) 16) (nm (pI h11 16 (nI c).toNatClampNeg r) (fun h13 => bd (gX12_sum 0 h13) (fun _ h15 => nm (nI c + 1) (fun v1_17 => bd (fX12_passes 59 h15) (fun r19 h18 => fX12_book_39 w' v1_17 r19 h18)))))))) = fX12_book_39 k (nI (c + 1)) 0 hF ∧ 0 < k ∧ gI hF 0 30 = nI f ∧ (∀ b j, ¬ b = 15 → ¬ b = 16 → ¬ (b = 0 ∧ (j = 29 ∨ j = 30)) → gI hF b j = gI h b j) := by
      intro f x r hf
      simp only [inb_n c16 (show 16 < 2 ^ 31 by omega), ck_t, nm_e1, nI_clamp (show c < 2 ^ 31 by omega), nI_1]
      obtain ⟨hF, eF⟩ : ∃ y, y = pI (pI (pI (pI h 0 29 (nI x)) 0 30 (nI f)) 15 c (gI (pI (pI h 0 29 (nI x)) 0 30 (nI f)) 0 29)) 16 c r := ⟨_, rfl⟩
      have f30 : gI hF 0 30 = nI f := by rw [eF, gI_pI, if_neg (by omega), gI_pI, if_neg (by omega), gI_pI, if_pos ⟨rfl, rfl⟩]
      have B : bdM hF := by unfold bdM; rw [f30]; exact fun z => m1_ne (by omega) z.symm
      obtain ⟨r', er⟩ := b_E B
      rw [← eF, er, bd_s, b_pass B, bd_s]
      refine ⟨w', hF, rfl, by omega, f30, fun b j z1 z2 z3 => ?_⟩
      rw [eF, gI_pI, if_neg (fun y => z2 y.1), gI_pI, if_neg (fun y => z1 y.1), gI_pI, if_neg (by omega), gI_pI, if_neg (by omega)]
    rcases m_num T Z (D := 2) (M := 15) (a := a) (by omega) (by omega) h2 with ⟨f, e1, e2, x, e3⟩ | ⟨v, e, e1, e2, e3, e4, e5⟩
    · have B := bdM_p (h := h) (x := nI x) e2
      rw [e1, e3, bd_s, b_need B, bv_s]
      obtain ⟨k, hF, q1, q2, q3, q4⟩ := bad f x 0 e2
      exact Or.inl ⟨f, k, hF, rfl, e2, q1, q2, q3, q4⟩
    · rw [e1, e5, bd_s, m_need T (by omega) (by decide)]
      simp only
      by_cases cc : ch e = 61
      · have l := ZZ_l Z cc (by decide)
        rw [if_pos cc, if_pos cc, bv_s]
        simp only [inb_n c16 (show 16 < 2 ^ 31 by omega), ck_t, nm_e1, nI_clamp (show c < 2 ^ 31 by omega), nI_1, g29]
        obtain ⟨h6, eh6⟩ : ∃ y, y = pI (pI h 15 c (nI (e + 1))) 16 c (nI v) := ⟨_, rfl⟩
        have cm : pI (pI (pI h 0 29 (nI (e + 1))) 15 c (nI (e + 1))) 16 c (nI v) = pI h6 0 29 (nI (e + 1)) := by
          rw [eh6, pI_comm (h := h) (by omega), pI_comm (by omega)]
        have x6 : exB h h6 := by rw [eh6]; exact exB_p
        obtain ⟨T6, E6, V6⟩ := KP h6 x6
        rw [cm]
        rcases m_E T6 Z V6 (show e + 1 ≤ 60 by omega) with ⟨f, w1, w2, v', x, w3⟩ | ⟨g, e', w1, w2, w3, w4⟩
        · have B := bdM_p (h := h6) (x := nI x) w2
          rw [w1, w3, bd_s, b_pass B, bd_s]
          refine Or.inl ⟨f, w', _, rfl, w2, rfl, by omega, by rw [gI_pI, if_pos ⟨rfl, rfl⟩], fun b j z1 z2 z3 => ?_⟩
          rw [gI_pI, if_neg (by omega), gI_pI, if_neg (by omega), x6.2 b j z1 z2]
        · rw [w1, w4, bd_s, m_pass T6 (by omega) (by decide)]
          simp only
          have g6 : (∀ i, i < c → gI h6 15 i = gI h 15 i ∧ gI h6 16 i = gI h 16 i) ∧ gI h6 15 c = nI (e + 1) ∧ gI h6 16 c = nI v := by
            rw [eh6]
            refine ⟨fun i hi => ⟨?_, ?_⟩, ?_, ?_⟩
            · rw [gI_pI, if_neg (by omega), gI_pI, if_neg (by omega)]
            · rw [gI_pI, if_neg (by omega), gI_pI, if_neg (by omega)]
            · rw [gI_pI, if_neg (by omega), gI_pI, if_pos ⟨rfl, rfl⟩]
            · rw [gI_pI, if_pos ⟨rfl, rfl⟩]
          by_cases c2 : ch e' = 59
          · have l2 := ZZ_l Z c2 (by decide)
            rw [if_pos c2, if_pos c2, bd_s]
            rcases ih (e' + 1) (c + 1) w' h6 (fun h' y => KP h' (exB_t x6 y)) (by omega) (by omega) (by omega) (by omega) with ⟨f, k, hF, q1, q2, q3, q4, q5, q6⟩ | ⟨f, k, hF, c', q0, q1, q2, q3, q4, q5, q6⟩ | ⟨L, e9, k, h', q1, q2, q3, q4, q5, q6, q7⟩
            · rw [q1]
              exact Or.inr (Or.inl ⟨f, k, hF, c + 1 + 1, by omega, rfl, q2, q3, q4, q5, fun b j z1 z2 z3 => by rw [q6 b j z1 z2 z3, x6.2 b j z1 z2]⟩)
            · rw [q1]
              exact Or.inr (Or.inl ⟨f, k, hF, c', by omega, rfl, q2, q3, q4, q5, fun b j z1 z2 z3 => by rw [q6 b j z1 z2 z3, x6.2 b j z1 z2]⟩)
            · rw [q1]
              refine Or.inr (Or.inr ⟨(v, e + 1) :: L, e9, k, h', rfl, q2, exB_t x6 q3, q4, ?_, fun i hi => ?_, fun i l p hl => ?_⟩)
              · rw [q5, List.length_cons, show c + 1 + L.length = c + (L.length + 1) by omega]
              · obtain ⟨y1, y2⟩ := q6 i (by omega)
                rw [y1, y2]
                exact g6.1 i hi
              · cases i with
                | zero =>
                  rw [List.getElem?_cons_zero] at hl
                  cases hl
                  obtain ⟨y1, y2⟩ := q6 c (by omega)
                  rw [Nat.add_zero, y1, y2]
                  exact g6.2
                | succ i =>
                  rw [List.getElem?_cons_succ] at hl
                  have := q7 i l p hl
                  rw [show c + (i + 1) = c + 1 + i by omega]
                  exact this
          · rw [if_neg c2, if_neg c2, bd_s]
            refine Or.inr (Or.inr ⟨[(v, e + 1)], e', w', h6, rfl, w3, x6, by omega, rfl, g6.1, fun i l p hl => ?_⟩)
            cases i with
            | zero =>
              rw [List.getElem?_cons_zero] at hl
              cases hl
              rw [Nat.add_zero]
              exact g6.2
            | succ i => rw [List.getElem?_cons_succ] at hl; cases hl
      · rw [if_neg cc, if_neg cc, bv_s]
        obtain ⟨k, hF, q1, q2, q3, q4⟩ := bad e e (nI v) e4
        exact Or.inl ⟨e, k, hF, rfl, e4, q1, q2, q3, q4⟩
end BOO2
