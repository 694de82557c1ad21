section PARC
variable {h : HS} {ch : Nat → Int32} {E : PEnv} {A : Nat}
theorem f_dig (p : Int32) (h : HS) : fX11_isDigit p h = some (if (48 : Int32) ≤ p ∧ p ≤ 57 then 1 else 0, h) := by
  unfold fX11_isDigit
  by_cases c1 : p < 48
  · rw [if_pos c1, if_neg (fun z => absurd z.1 (Int32.not_le.mpr c1))]
  · rw [if_neg c1]
    by_cases c2 : 57 < p
    · rw [if_pos c2, if_neg (fun z => absurd z.2 (Int32.not_le.mpr c2))]
    · rw [if_neg c2, if_pos ⟨Int32.not_lt.mp c1, Int32.not_lt.mp c2⟩]
/-- the class reads -/
def TC (A : Nat) (h : HS) (ch : Nat → Int32) : Prop := gI h A 3 = -1 ∧ ∀ a, a ≤ 61 → ∃ x, SC x (ch a) ∧ fX2_peek A (pI h A 2 (nI a)) = some (x, pI h A 2 (nI a))
theorem g23 {v : Int32} : gI (pI h A 2 v) A 3 = gI h A 3 := by rw [gI_pI, if_neg (by omega)]
theorem g22 {v : Int32} : gI (pI h A 2 v) A 2 = v := by rw [gI_pI, if_pos ⟨rfl, rfl⟩]
theorem c_fail (T : TC A h ch) (v p : Int32) : fX2_fail A p (pI h A 2 v) = some (pI (pI h A 2 v) A 3 p) := by
  unfold fX2_fail
  rw [g23, T.1, if_pos rfl, nm_e1]
def bdC (A : Nat) (h' : HS) : Prop := ¬ gI h' A 3 = -1
theorem bdC_p {x : Int32} {f : Nat} (hf : f ≤ 60) : bdC A (pI (pI h A 2 x) A 3 (nI f)) := by
  unfold bdC
  rw [gI_pI, if_pos ⟨rfl, rfl⟩]
  exact fun z => m1_ne (by omega) z.symm
theorem d_peek (B : bdC A h) : fX2_peek A h = some (-1, h) := by
  unfold fX2_peek
  rw [if_neg B]
theorem d_fail (B : bdC A h) (p : Int32) : fX2_fail A p h = some h := by
  unfold fX2_fail
  rw [if_neg B]
theorem d_take (B : bdC A h) {p : Int32} (hp : (0 : Int32) ≤ p) : fX2_take A p h = some (0, h) := by
  have np : ¬ (-1 : Int32) = p := by rintro rfl; exact absurd hp (by decide)
  unfold fX2_take fX2_take_13
  rw [d_peek B, bd_s, if_neg np, if_pos rfl, nm_e1, Int32.add_zero, pI_self]
  rfl
theorem d_exp (B : bdC A h) {p : Int32} (hp : (0 : Int32) ≤ p) : fX2_expect A p h = some h := by
  have np : ¬ (-1 : Int32) = p := by rintro rfl; exact absurd hp (by decide)
  unfold fX2_expect
  rw [d_peek B, bd_s, if_neg np, d_fail B, bv_s]
theorem d_dg : fX11_isDigit (-1) h = some (0, h) := by rw [f_dig, if_neg (by decide)]
theorem d_num (B : bdC A h) (p : Int32) : fX2_number A p h = some (0, h) := by
  obtain ⟨u, eu⟩ := fuel1 (FU_gt (show 0 < 40000 by omega))
  unfold fX2_number fX2_number_18
  rw [d_peek B, bd_s, d_dg, bd_s, if_pos rfl, d_fail B, bv_s, eu, fX2_number_22, d_peek B, bd_s, d_dg, bd_s, if_pos rfl, ite_self]
theorem d_load (B : bdC A h) (p : Int32) : fX2_loadBelow A p h = some (0, h) := by
  unfold fX2_loadBelow
  rw [d_peek B, bd_s, d_dg, bd_s, if_pos rfl, d_fail B, bv_s]
theorem c_take (T : TC A h ch) {a : Nat} (ha : a ≤ 61) {p : Int32} (hp : (0 : Int32) ≤ p ∧ p ≤ 127) : fX2_take A p (pI h A 2 (nI a)) = if ch a = p then some (1, pI h A 2 (nI (a + 1))) else some (0, pI h A 2 (nI a)) := by
  obtain ⟨x, x1, x2⟩ := T.2 a ha
  unfold fX2_take fX2_take_13
  rw [x2, bd_s]
  by_cases c : ch a = p
  · rw [if_pos ((sg_eq x1 hp).mpr c), if_pos c, if_neg (by decide), nm_e1, g22, nI_1, pI_pI]
    rfl
  · rw [if_neg (fun z => c ((sg_eq x1 hp).mp z)), if_neg c, if_pos rfl, nm_e1, Int32.add_zero, pI_self]
    rfl
theorem c_exp (T : TC A h ch) {a : Nat} (ha : a ≤ 61) {p : Int32} (hp : (0 : Int32) ≤ p ∧ p ≤ 127) : fX2_expect A p (pI h A 2 (nI a)) = if ch a = p then some (pI h A 2 (nI (a + 1))) else some (pI (pI h A 2 (nI a)) A 3 (nI a)) := by
  obtain ⟨x, x1, x2⟩ := T.2 a ha
  unfold fX2_expect
  rw [x2, bd_s]
  by_cases c : ch a = p
  · rw [if_pos ((sg_eq x1 hp).mpr c), if_pos c, nm_e1, g22, nI_1, pI_pI]
  · rw [if_neg (fun z => c ((sg_eq x1 hp).mp z)), if_neg c, g22, c_fail T, bv_s]
theorem c_n22 (T : TC A h ch) (Z : ZZ ch) {D : Nat} (hD : D ≤ 1000) : ∀ (k i a v n : Nat), i + k = D → a ≤ 60 → k < n → fX2_number_22 A n (nI D) (nI v) (nI i) (pI h A 2 (nI a)) = some (nI (pDg ch k v a).1, pI h A 2 (nI (pDg ch k v a).2)) := by
  intro k
  induction k with
  | zero =>
    intro i a v n hk ha hn
    obtain ⟨m, rfl⟩ := fuel1 hn
    rw [fX2_number_22, if_pos (nI_le (by omega) (by omega)), pDg]
  | succ k ih =>
    intro i a v n hk ha hn
    obtain ⟨m, rfl⟩ := fuel1 hn
    obtain ⟨x, x1, x2⟩ := T.2 a (by omega)
    rw [fX2_number_22, if_neg (nI_ge (by omega) (by omega)), x2, bd_s, f_dig, bd_s, if10s, pDg]
    by_cases c : (48 : Int32) ≤ ch a ∧ ch a ≤ 57
    · rw [if_pos ((sc_dg x1).mpr c), if_pos c, x2, bd_s]
      obtain ⟨d, d1, d2, d3⟩ := dg_nat c
      have l := ZZ_d Z c
      simp only [nm_e1, g22, nI_1, pI_pI, sc_v x1 c]
      rw [d3, d2, dg_val]
      exact ih (i + 1) (a + 1) _ m (by omega) (by omega) (by omega)
    · rw [if_neg (fun z => c ((sc_dg x1).mp z)), if_neg c]
theorem c_num (T : TC A h ch) (Z : ZZ ch) {D M a : Nat} (hD : 0 < D ∧ D ≤ 4) (hM : M + 1 = 10 ^ D) (ha : a ≤ 60) : (∃ f, pNb ch D M a = .inl f ∧ f ≤ 60 ∧ ∃ x, fX2_number A (nI D) (pI h A 2 (nI a)) = some (0, pI (pI h A 2 (nI x)) A 3 (nI f))) ∨ (∃ v e, pNb ch D M a = .inr (v, e) ∧ v ≤ M ∧ a < e ∧ e ≤ 60 ∧ fX2_number A (nI D) (pI h A 2 (nI a)) = some (nI v, pI h A 2 (nI e))) := by
  obtain ⟨r1, r2, r3, r4⟩ := pDg_r Z D 0 a ha
  rw [Nat.zero_add, Nat.one_mul, ← hM] at r4
  obtain ⟨x, x1, x2⟩ := T.2 a (by omega)
  unfold pNb fX2_number fX2_number_18
  rw [x2, bd_s, f_dig, bd_s, if10s]
  by_cases c : (48 : Int32) ≤ ch a ∧ ch a ≤ 57
  · have e := c_n22 T Z (show D ≤ 1000 by omega) D 0 a 0 FU (by omega) ha (FU_gt (by omega))
    rw [nI_0] at e
    rw [if_pos ((sc_dg x1).mpr c), if_pos c, if_pos (show (pDg ch D 0 a).1 ≤ M by omega), e]
    exact Or.inr ⟨_, _, rfl, by omega, r3 hD.1 c, r2, rfl⟩
  · have B := bdC_p (A := A) (h := h) (x := nI a) ha
    obtain ⟨u, eu⟩ := fuel1 (FU_gt (show 0 < 40000 by omega))
    rw [if_neg (fun z => c ((sc_dg x1).mp z)), if_neg c, g22, c_fail T, bv_s, eu, fX2_number_22, d_peek B, bd_s, d_dg, bd_s, if_pos rfl, ite_self]
    exact Or.inl ⟨_, rfl, ha, _, rfl⟩
theorem c_load (T : TC A h ch) (Z : ZZ ch) {M a : Nat} (hM : M < 2 ^ 30) (ha : a ≤ 60) : (∃ f, pNb ch 2 M a = .inl f ∧ f ≤ 60 ∧ ∃ v x, fX2_loadBelow A (nI (M + 1)) (pI h A 2 (nI a)) = some (v, pI (pI h A 2 (nI x)) A 3 (nI f))) ∨ (∃ v e, pNb ch 2 M a = .inr (v, e) ∧ v ≤ M ∧ a < e ∧ e ≤ 60 ∧ fX2_loadBelow A (nI (M + 1)) (pI h A 2 (nI a)) = some (nI v, pI h A 2 (nI e))) := by
  obtain ⟨r1, r2, r3, r4⟩ := pDg_r Z 2 0 a ha
  obtain ⟨x, x1, x2⟩ := T.2 a (by omega)
  by_cases c : (48 : Int32) ≤ ch a ∧ ch a ≤ 57
  · have l := ZZ_d Z c
    obtain ⟨d, d1, d2, d3⟩ := dg_nat c
    have r3' := r3 (by omega) c
    have key : fX2_loadBelow A (nI (M + 1)) (pI h A 2 (nI a)) = fX2_loadBelow_71 A (nI (M + 1)) (nI (pDg ch 2 0 a).1) (pI h A 2 (nI (pDg ch 2 0 a).2)) := by
      obtain ⟨y, y1, y2⟩ := T.2 (a + 1) (by omega)
      unfold fX2_loadBelow
      rw [x2, bd_s, f_dig, bd_s, if10s, if_pos ((sc_dg x1).mpr c), x2, bd_s]
      simp only [nm_e1, g22, nI_1, pI_pI, y2, bd_s, f_dig, if10s]
      rw [sc_v x1 c, d2, show (48 : Int32) = nI 48 by decide, pk_sub (by omega), show 48 + d - 48 = d by omega, ← show (48 : Int32) = nI 48 by decide]
      rw [show pDg ch 2 0 a = pDg ch 1 d (a + 1) by rw [pDg, if_pos c, d3, Nat.zero_mul, Nat.zero_add], pDg]
      by_cases c' : (48 : Int32) ≤ ch (a + 1) ∧ ch (a + 1) ≤ 57
      · obtain ⟨d', d1', d2', d3'⟩ := dg_nat c'
        rw [if_pos ((sc_dg y1).mpr c'), if_pos c', sc_v y1 c', d3', d2', dg_val]
        rfl
      · rw [if_neg (fun z => c' ((sc_dg y1).mp z)), if_neg c']
    rw [key]
    unfold pNb fX2_loadBelow_71
    rw [if_pos c]
    by_cases c2 : (pDg ch 2 0 a).1 ≤ M
    · rw [if_pos c2, if_pos (nI_lt (by omega) (by omega))]
      exact Or.inr ⟨_, _, rfl, c2, r3', r2, rfl⟩
    · rw [if_neg c2, if_neg (nI_nlt (by omega) (by omega)), g22, c_fail T, bv_s, show (1 : Int32) = nI 1 by decide, pk_sub (by omega)]
      exact Or.inl ⟨_, rfl, by omega, _, _, rfl⟩
  · unfold pNb fX2_loadBelow
    rw [x2, bd_s, f_dig, bd_s, if10s, if_neg (fun z => c ((sc_dg x1).mp z)), if_neg c, g22, c_fail T, bv_s]
    exact Or.inl ⟨_, rfl, ha, _, _, rfl⟩
end PARC
