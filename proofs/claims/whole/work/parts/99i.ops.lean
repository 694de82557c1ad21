section BOO
variable {h : HS} {ch : Nat → Int32} {E : PEnv}
/-- a sum after a fault changes nothing -/
theorem d_E (B : bdC 14 h) : ∃ r, gX1_expression 0 h = some (r, h) := by
  obtain ⟨u, eu⟩ := fuel1 (FU_gt (show 0 < 40000 by omega))
  have th : ∀ m d, rX1_thing (m + 1) d h = some (0, h) := fun m d => by
    rw [rX1_thing]
    unfold fX1_thing
    rw [d_peek B, bd_s, d_dg, bd_s, if_pos rfl, if_neg (by decide)]
    unfold fX1_thing_67
    rw [if_neg (by decide), if_neg (by decide), if_neg (by decide), if_neg (by decide), if_neg (by decide), if_neg (by decide), d_fail B, bv_s]
  have pr : ∃ r, gX1_product 0 h = some (r, h) := by
    unfold gX1_product fX1_product gX1_thing
    rw [eu, fX1_product_4, if_neg (by decide), eu, fX1_product_13, if_neg (by decide), d_take B (by decide), bd_s, if_pos rfl]
    unfold fX1_product_41
    rw [th, bd_s, nm_e1, d_take B (by decide), bd_s, if_pos rfl]
    exact ⟨_, rfl⟩
  obtain ⟨r, er⟩ := pr
  unfold gX1_expression fX1_expression
  rw [er, bd_s, eu, fX1_expression_8, if_neg (by decide), d_take B (by decide), bd_s, if_pos rfl, d_take B (by decide), bd_s, if_pos rfl]
  exact ⟨_, rfl⟩
theorem b_E (B : bdM h) : ∃ r, gX12_sum 0 h = some (r, h) := by
  obtain ⟨u, eu⟩ := fuel1 (FU_gt (show 0 < 40000 by omega))
  have th : ∀ m d, rX12_thing (m + 1) d h = some (0, h) := fun m d => by
    rw [rX12_thing]
    unfold fX12_thing
    rw [b_pass B, bd_s, if_pos rfl, b_fine B, bd_s, if_pos rfl]
  unfold gX12_sum fX12_sum gX12_product fX12_product gX12_thing
  rw [th, bd_s, eu, fX12_product_6, b_pass B, bd_s, if_pos rfl, bd_s, fX12_sum_6, b_fine B, bd_s, if_pos rfl]
  exact ⟨_, rfl⟩
/-- a line: its load, where its sum begins, where it ends -/
def pLn (ch : Nat → Int32) (a : Nat) : Sum Nat (Nat × Nat × Nat) := match pNb ch 2 15 a with
  | .inl f => .inl f
  | .inr q => if ch q.2 = 61 then (match pE ch (q.2 + 1) with
    | .inl f => .inl f
    | .inr w => .inr (q.1, q.2 + 1, w.2)) else .inl q.2
theorem c_line (T : TC 14 h ch) (Z : ZZ ch) (V : EC h E) {a : Nat} (ha : a ≤ 60) : (∃ f, pLn ch a = .inl f ∧ f ≤ 60 ∧ ∃ x, fX1_readLine (pI h 14 2 (nI a)) = some (pI (pI h 14 2 (nI x)) 14 3 (nI f))) ∨ (∃ l p e, pLn ch a = .inr (l, p, e) ∧ l ≤ 15 ∧ a + 2 ≤ p ∧ p + 1 ≤ e ∧ e ≤ 60 ∧ (∃ g, pE ch p = .inr (g, e)) ∧ fX1_readLine (pI h 14 2 (nI a)) = some (pI h 14 2 (nI e))) := by
  unfold fX1_readLine pLn
  rw [show (16 : Int32) = nI (15 + 1) by decide]
  rcases c_load T Z (M := 15) (a := a) (by omega) ha with ⟨f, e1, e2, v, x, e3⟩ | ⟨v, e, e1, e2, e3, e4, e5⟩
  · have B := bdC_p (A := 14) (h := h) (x := nI x) e2
    obtain ⟨r, er⟩ := d_E B
    rw [e1, e3, bd_s, d_exp B (by decide), bv_s, er, bd_s]
    exact Or.inl ⟨f, rfl, e2, x, rfl⟩
  · rw [e1, e5, bd_s, c_exp T (by omega) (by decide)]
    simp only
    by_cases c : ch e = 61
    · have l := ZZ_l Z c (by decide)
      rw [if_pos c, if_pos c, bv_s]
      rcases c_E T Z V (show e + 1 ≤ 60 by omega) with ⟨f, w1, w2, v', x, w3⟩ | ⟨g, e', w1, w2, w3, w4⟩
      · rw [w1, w3, bd_s]
        exact Or.inl ⟨f, rfl, w2, x, rfl⟩
      · rw [w4, bd_s]
        refine Or.inr ⟨v, e + 1, e', ?_, e2, by omega, by omega, w3, ⟨g, w1⟩, rfl⟩
        rw [w1]
    · have B := bdC_p (A := 14) (h := h) (x := nI e) e4
      obtain ⟨r, er⟩ := d_E B
      rw [if_neg c, if_neg c, bv_s, er, bd_s]
      exact Or.inl ⟨e, rfl, e4, e, rfl⟩
/-- a book: its lines, and where it ends -/
def pBk (ch : Nat → Int32) : Nat → Nat → Sum Nat (List (Nat × Nat) × Nat)
  | 0, _ => .inl 0
  | n + 1, a => match pLn ch a with
    | .inl f => .inl f
    | .inr q => if ch q.2.2 = 59 then (match pBk ch n (q.2.2 + 1) with
      | .inl f => .inl f
      | .inr w => .inr ((q.1, q.2.1) :: w.1, w.2)) else .inr ([(q.1, q.2.1)], q.2.2)
theorem EC_any {N : Nat} (hN : N ≤ 15) (e28 : gI h 2 8 = nI N) : EC h (fun j => if j < N then gI h 30 j else 0, ltV (gI h 5 11) (gI h 5 12) (gI h 5 13) (gI h 5 14) (gI h 1 7)) := by
  refine ⟨⟨_, hN, e28⟩, fun a ha => ⟨fun p hp => ?_, fun j hj => ?_⟩⟩
  · have g : ∀ b j, ¬ b = 14 → gI (pI h 14 2 (nI a)) b j = gI h b j := fun b j z => by rw [gI_pI, if_neg (fun y => z y.1)]
    show fX1_letter p (pI h 14 2 (nI a)) = some (ltV (gI h 5 11) (gI h 5 12) (gI h 5 13) (gI h 5 14) (gI h 1 7) p, pI h 14 2 (nI a))
    unfold fX1_letter
    rcases hp with rfl | rfl | rfl | rfl | rfl
    · rw [if_neg (by decide), if_neg (by decide), if_neg (by decide), if_neg (by decide), if_pos rfl, g _ _ (by decide), ltV_h]
    · rw [if_neg (by decide), if_neg (by decide), if_neg (by decide), if_neg (by decide), if_neg (by decide), if_neg (by decide), if_neg (by decide), if_neg (by decide), if_neg (by decide), if_pos rfl, g _ _ (by decide), ltV_m]
    · rw [if_neg (by decide), if_neg (by decide), if_neg (by decide), if_neg (by decide), if_neg (by decide), if_neg (by decide), if_neg (by decide), if_neg (by decide), if_pos rfl, g _ _ (by decide), ltV_l]
    · rw [if_pos rfl, g _ _ (by decide), ltV_d]
    · rw [if_neg (by decide), if_neg (by decide), if_neg (by decide), if_neg (by decide), if_neg (by decide), if_neg (by decide), if_neg (by decide), if_neg (by decide), if_neg (by decide), if_neg (by decide), g _ _ (by decide), ltV_w]
  · show bd (fX4_there (nI j) (pI h 14 2 (nI a))) _ = some ((if j < N then gI h 30 j else 0), pI h 14 2 (nI a))
    unfold fX4_there
    have e28' : gI (pI h 14 2 (nI a)) 2 8 = nI N := by rw [gI_pI, if_neg (by decide)]; exact e28
    rw [if_neg (nI_pos (by omega)), e28']
    by_cases c : j < N
    · rw [if_neg (nI_ge c (by omega)), bd_s, if_neg (by decide), inb_n (show j < 15 by omega) (by omega), ck_t, nI_clamp (by omega), gI_pI, if_neg (by omega), if_pos c]
    · rw [if_pos (nI_le (by omega) (by omega)), bd_s, if_pos rfl, if_neg c]
end BOO
