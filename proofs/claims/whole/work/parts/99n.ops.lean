section BKO
variable {hc hm h : HS} {ch : Nat → Int32}
theorem TM_of {q n t u s : Nat} (ea : ak skM q = some (2, n)) (hq : ¬ q = 0) (hs : s = min t u) (hn : s ≤ n) (hn2 : n < 2 ^ 31) (ht : t < 2 ^ 31) (hu : u < 2 ^ 31) (e27 : gI h 0 27 = nI t) (e28 : gI h 0 28 = nI u) (e30 : gI h 0 30 = -1) (er : gR h 0 26 = some q) : TM h (chT (gI h q) s) := by
  refine ⟨e30, fun a ha => ?_⟩
  have g27 : gI (pI h 0 29 (nI a)) 0 27 = nI t := by rw [gI_pI, if_neg (by decide), e27]
  have g28 : gI (pI h 0 29 (nI a)) 0 28 = nI u := by rw [gI_pI, if_neg (by decide), e28]
  have gr : gR (pI h 0 29 (nI a)) 0 26 = some q := by rw [gR_pI, er]
  unfold fX12_here
  rw [g27, g28, g29, gr]
  by_cases c1 : t ≤ a
  · rw [if_pos (nI_le c1 (by omega))]
    exact ⟨-1, sg_out (by omega), rfl⟩
  · rw [if_neg (nI_ge (by omega) ht)]
    by_cases c2 : u ≤ a
    · rw [if_pos (nI_le c2 (by omega))]
      exact ⟨-1, sg_out (by omega), rfl⟩
    · rw [if_neg (nI_ge (by omega) hu), bR_s, bA_s ea, inb_n (show a < n by omega) hn2, ck_t, nI_clamp (by omega), gI_pI, if_neg (by omega)]
      exact ⟨_, sg_m (by omega), rfl⟩
/-- the class's cursor at the end -/
theorem fin_B {A : Nat} (B : bdC A h) (v : Int32) : fX2_finish A v h = some (gI h A 3, h) := by
  unfold fX2_finish fX2_finish_19
  simp only [d_fail B, bv_s, ite_self]
theorem fin_ok {A s e : Nat} (T : TC A h ch) (hs : s ≤ e) (he : e ≤ 60) (e1 : gI h A 1 = nI s) : fX2_finish A (nI s) (pI h A 2 (nI e)) = some (-1, pI h A 2 (nI e)) := by
  have g1 : gI (pI h A 2 (nI e)) A 1 = nI s := by rw [gI_pI, if_neg (by omega), e1]
  unfold fX2_finish fX2_finish_19
  rw [g1, g22, if_pos (nI_le hs (by omega)), if_pos (nI_le (Nat.le_refl s) (by omega)), g23, T.1]
theorem fin_bad {A s u m e : Nat} (T : TC A h ch) (hu : u = min s m) (hm : m ≤ 60) (hs : s ≤ 80) (n : e < s) (he : e ≤ m) (e1 : gI h A 1 = nI u) : fX2_finish A (nI s) (pI h A 2 (nI e)) = some (nI e, pI (pI h A 2 (nI e)) A 3 (nI e)) := by
  have g1 : gI (pI h A 2 (nI e)) A 1 = nI u := by rw [gI_pI, if_neg (by omega), e1]
  have B := bdC_p (A := A) (h := h) (x := nI e) (f := e) (by omega)
  have g3 : gI (pI (pI h A 2 (nI e)) A 3 (nI e)) A 3 = nI e := by rw [gI_pI, if_pos ⟨rfl, rfl⟩]
  unfold fX2_finish fX2_finish_19
  rw [g1, g22]
  by_cases c : u ≤ e
  · have ue : u = e := by omega
    rw [if_pos (nI_le c (by omega)), if_neg (nI_ge (show u < s by omega) (by omega)), ue, c_fail T, bv_s, g3]
  · rw [if_neg (nI_ge (by omega) (by omega)), c_fail T, bv_s]
    simp only [d_fail B, bv_s, ite_self, g3]
theorem c_bk {s e : Nat} {x : Nat → Int32} (T : TC 14 h ch) (hs : s ≤ e) (he : e ≤ 60) (e1 : gI h 14 1 = nI s) (hx : ∀ j, j < s → gI h 16 j = x j) (hl : (mkL x (s - 1) 1).length ≤ 15) : ∃ h', fX1_read_53 16 (nI s) (pI h 14 2 (nI e)) = some (-1, h') ∧ gI h' 5 5 = nI (mkL x (s - 1) 1).length ∧ gI h' 5 4 = nI s ∧ (∀ j, j < s → gI h' 36 j = x j) ∧ (∀ b j, ¬ b = 14 → ¬ (b = 5 ∧ (j = 4 ∨ j = 5)) → ¬ b = 36 → ¬ b = 37 → ¬ b = 38 → gI h' b j = gI h b j) ∧ ∀ i l q, (mkL x (s - 1) 1)[i]? = some (l, q) → gI h' 37 i = l ∧ gI h' 38 i = nI q := by
  obtain ⟨h0, eh0⟩ : ∃ y, y = pI (pI h 14 2 (nI e)) 5 4 (nI s) := ⟨_, rfl⟩
  have g54 : gI h0 5 4 = nI s := by rw [eh0, gI_pI, if_pos ⟨rfl, rfl⟩]
  have cp : cpok 0 0 (nI s) 80 60 = true := by
    unfold cpok
    refine decide_eq_true ⟨by decide, by decide, nI_pos (by omega), ?_, ?_⟩ <;> rw [nI_clamp (by omega), cl0] <;> omega
  obtain ⟨h1, eh1⟩ : ∃ y, y = pI (cpI h0 16 36 0 0 s) 5 5 0 := ⟨_, rfl⟩
  have G0 : ∀ b j, ¬ b = 14 → ¬ (b = 5 ∧ j = 4) → gI h0 b j = gI h b j := fun b j z1 z2 => by rw [eh0, gI_pI, if_neg z2, gI_pI, if_neg (fun y => z1 y.1)]
  have G1 : ∀ b j, ¬ b = 36 → ¬ (b = 5 ∧ j = 5) → gI h1 b j = gI h0 b j := fun b j z1 z2 => by rw [eh1, gI_pI, if_neg z2, gI_cpI, if_neg z1]
  have G36 : ∀ j, j < s → gI h1 36 j = x j := fun j hj => by
    rw [eh1, gI_pI, if_neg (by omega), gI_cpI, if_pos rfl, pk_cpy_in (by omega) (by omega), Nat.zero_add, Nat.sub_zero]
    show gI h0 16 j = x j
    rw [G0 16 j (by decide) (by omega), hx j hj]
  obtain ⟨h', a1, a2, a3, a4, a5⟩ := mk_loop (x := x) (s := s) (by omega) (s - 1) 1 0 FU h1 (by omega) (by omega) (by omega) (FU_gt (by omega)) (by rw [G1 5 4 (by decide) (by decide), g54]) (by rw [eh1, gI_pI, if_pos ⟨rfl, rfl⟩, nI_0]) G36 (by omega)
  refine ⟨h', ?_, by rw [a2, Nat.zero_add], ?_, fun j hj => ?_, fun b j z1 z2 z3 z4 z5 => ?_, fun i l q e => ?_⟩
  · unfold fX1_read_53
    rw [fin_ok T hs he e1, bd_s, if_pos rfl, nm_e1, ← eh0, bA_s (show ak skC 16 = some (1, 80) by decide), g54, cp, ck_t, nm_e1, cl0, nI_clamp (by omega)]
    unfold fX1_markLines
    rw [nm_e1, ← eh1, show (1 : Int32) = nI 1 by decide, a1, bv_s]
  · rw [a3 5 4 (by decide) (by decide) (by decide), G1 5 4 (by decide) (by decide), g54]
  · rw [a3 36 j (by omega) (by decide) (by decide), G36 j hj]
  · rw [a3 b j (by omega) z4 z5, G1 b j z3 (by omega), G0 b j z1 (by omega)]
  · have := a5 i l q e
    rw [Nat.zero_add] at this
    exact this
theorem m_bk {s e q k : Nat} (hs : s ≤ e) (he : e ≤ 60) (hq : q ≤ 15) (e27 : gI h 0 27 = nI s) (e30 : gI h 0 30 = -1) : ∃ h', fX12_book_39 (k + 1) (nI q) 0 (pI h 0 29 (nI e)) = some (nI q, h') ∧ gI h' 0 31 = nI q ∧ gI h' 0 32 = nI s ∧ (∀ b j, ¬ b = 12 → ¬ b = 13 → ¬ b = 14 → ¬ (b = 0 ∧ (j = 29 ∨ j = 31 ∨ j = 32)) → gI h' b j = gI h b j) ∧ (∀ j, gI h' 12 j = if j < s then (gI h 9 j).toInt8.toInt32 else gI h 12 j) ∧ ∀ j, j < q → gI h' 13 j = gI h 15 j ∧ gI h' 14 j = gI h 16 j := by
  have g27 : gI (pI h 0 29 (nI e)) 0 27 = nI s := by rw [gI_pI, if_neg (by decide), e27]
  have g30 : gI (pI h 0 29 (nI e)) 0 30 = -1 := by rw [g2930, e30]
  obtain ⟨h1, a1, a2, a3⟩ := b128 (v1 := nI q) (s := s) (by omega) s 0 FU (pI h 0 29 (nI e)) (by omega) (FU_gt (by omega)) g27
  obtain ⟨h2, b1, b2, b3⟩ := b164 hq q 0 FU (pI h1 0 32 (nI s)) (by omega) (FU_gt (by omega))
  rw [nI_0] at a1 b1
  refine ⟨pI h2 0 31 (nI q), ?_, by rw [gI_pI, if_pos ⟨rfl, rfl⟩], ?_, fun b j z1 z2 z3 z4 => ?_, fun j => ?_, fun j hj => ?_⟩
  · rw [fX12_book_39, if_pos rfl, g27, g29, if_pos (nI_le hs (by omega))]
    unfold fX12_book_112 fX12_fine
    rw [g30, if_pos rfl, bd_s, if_neg (by decide), a1, b1]
  · rw [gI_pI, if_neg (by decide), b2 0 32 (by decide) (by decide), gI_pI, if_pos ⟨rfl, rfl⟩]
  · rw [gI_pI, if_neg (by omega), b2 b j z2 z3, gI_pI, if_neg (by omega), a2 b j z1, gI_pI, if_neg (by omega)]
  · have q9 : gI (pI h 0 29 (nI e)) 9 j = gI h 9 j := by rw [gI_pI, if_neg (by omega)]
    have q12 : gI (pI h 0 29 (nI e)) 12 j = gI h 12 j := by rw [gI_pI, if_neg (by omega)]
    rw [gI_pI, if_neg (by omega), b2 12 j (by decide) (by decide), gI_pI, if_neg (by omega), a3 j, q9, q12]
    by_cases c : j < s
    · have c' : 0 ≤ j ∧ j < s := ⟨by omega, c⟩
      rw [if_pos c, if_pos c']
    · have c' : ¬ (0 ≤ j ∧ j < s) := fun z => c z.2
      rw [if_neg c, if_neg c']
  · obtain ⟨c1, c2⟩ := b3 j
    have c' : 0 ≤ j ∧ j < q := ⟨by omega, hj⟩
    rw [if_pos c', gI_pI, if_neg (by omega), a2 15 j (by decide), gI_pI, if_neg (by omega)] at c1
    rw [if_pos c', gI_pI, if_neg (by omega), a2 16 j (by decide), gI_pI, if_neg (by omega)] at c2
    rw [gI_pI, if_neg (by omega), gI_pI, if_neg (by omega)]
    exact ⟨c1, c2⟩
theorem m_bkB {k : Nat} {v1 : Int32} (B : bdM h) : fX12_book_39 (k + 1) v1 0 h = some (-1 - gI h 0 30, h) := by
  rw [fX12_book_39, if_pos rfl]
  unfold fX12_book_112
  rw [b_fault B, bv_s, ite_self, b_fine B, bd_s, if_pos rfl]
theorem m_bkE {k e s : Nat} {v1 : Int32} (T : TM h ch) (e27 : gI h 0 27 = nI s) (hs : s ≤ 80) (n : e < s) (he : e ≤ 60) : fX12_book_39 (k + 1) v1 0 (pI h 0 29 (nI e)) = some (-1 - nI e, pI (pI h 0 29 (nI e)) 0 30 (nI e)) := by
  have g27 : gI (pI h 0 29 (nI e)) 0 27 = nI s := by rw [gI_pI, if_neg (by decide), e27]
  have B := bdM_p (h := h) (x := nI e) he
  rw [fX12_book_39, if_pos rfl, g27, g29, if_neg (nI_ge n (by omega)), m_fault T, bv_s]
  unfold fX12_book_112
  rw [b_fine B, bd_s, if_pos rfl, gI_pI, if_pos ⟨rfl, rfl⟩]
end BKO
