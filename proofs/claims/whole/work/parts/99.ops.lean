section PAR
/-- a sign as it is read, and as it is meant -/
def SC (x c : Int32) : Prop := x = c ∨ (c = -1 ∧ ¬ ((0 : Int32) ≤ x ∧ x ≤ 127))
theorem sg_eq {x c p : Int32} (h : SC x c) (hp : (0 : Int32) ≤ p ∧ p ≤ 127) : x = p ↔ c = p := by
  rcases h with rfl | ⟨rfl, n⟩
  · exact Iff.rfl
  · constructor
    · rintro rfl; exact absurd hp n
    · rintro rfl; exact absurd hp.1 (by decide)
theorem sc_dg {x c : Int32} (h : SC x c) : ((48 : Int32) ≤ x ∧ x ≤ 57) ↔ ((48 : Int32) ≤ c ∧ c ≤ 57) := by
  rcases h with rfl | ⟨rfl, n⟩
  · exact Iff.rfl
  · constructor
    · rintro ⟨a, b⟩; exact absurd ⟨Int32.le_trans (by decide) a, Int32.le_trans b (by decide)⟩ n
    · rintro ⟨a, b⟩; exact absurd a (by decide)
theorem sc_v {x c : Int32} (h : SC x c) (d : (48 : Int32) ≤ c ∧ c ≤ 57) : x = c := by
  rcases h with rfl | ⟨rfl, n⟩
  · rfl
  · exact absurd d.1 (by decide)
theorem dg_nat {c : Int32} (d : (48 : Int32) ≤ c ∧ c ≤ 57) : ∃ k, k ≤ 9 ∧ c = nI (48 + k) ∧ c.toNatClampNeg - 48 = k := by
  have h1 := i32_le.mp d.1
  have h2 := i32_le.mp d.2
  rw [show (48 : Int32).toInt = 48 by decide +kernel] at h1
  rw [show (57 : Int32).toInt = 57 by decide +kernel] at h2
  have e : c = nI (48 + (c.toInt.toNat - 48)) := i32_eqI (by omega)
  refine ⟨c.toInt.toNat - 48, by omega, e, ?_⟩
  rw [e, nI_clamp (by omega), nI_toInt (by omega)]
  omega
theorem dg_val (v k : Nat) : nI v * 10 + nI (48 + k) - 48 = nI (v * 10 + k) := by
  rw [show (10 : Int32) = nI 10 by decide, show (48 : Int32) = nI 48 by decide, pk_mul, nI_add, pk_sub (by omega)]
  congr 1
  omega
theorem pI_pI {h : HS} {a k : Nat} {v w : Int32} : pI (pI h a k v) a k w = pI h a k w := by
  unfold pI
  congr 1
  funext x y
  by_cases c : x = a ∧ y = k
  · rw [if_pos c, if_pos c]
  · rw [if_neg c, if_neg c]
    show (if x = a ∧ y = k then v else h.1 x y) = h.1 x y
    rw [if_neg c]
variable {h : HS} {ch : Nat → Int32} {E : PEnv}
def ZZ (ch : Nat → Int32) : Prop := ∀ a, 60 ≤ a → ch a = -1
theorem ZZ_l (Z : ZZ ch) {a : Nat} {p : Int32} (e : ch a = p) (hp : (0 : Int32) ≤ p) : a < 60 := by
  by_cases c : a < 60
  · exact c
  · rw [Z a (by omega)] at e
    rw [← e] at hp
    exact absurd hp (by decide)
theorem ZZ_d (Z : ZZ ch) {a : Nat} (d : (48 : Int32) ≤ ch a ∧ ch a ≤ 57) : a < 60 := ZZ_l Z rfl (Int32.le_trans (by decide) d.1)
theorem pDg_r (Z : ZZ ch) : ∀ (k v a : Nat), a ≤ 60 → a ≤ (pDg ch k v a).2 ∧ (pDg ch k v a).2 ≤ 60 ∧ (0 < k → ((48 : Int32) ≤ ch a ∧ ch a ≤ 57) → a < (pDg ch k v a).2) ∧ (pDg ch k v a).1 < (v + 1) * 10 ^ k
  | 0, v, a, ha => by
    rw [pDg]
    exact ⟨Nat.le_refl _, ha, fun z => by omega, by omega⟩
  | k + 1, v, a, ha => by
    rw [pDg]
    by_cases c : (48 : Int32) ≤ ch a ∧ ch a ≤ 57
    · rw [if_pos c]
      obtain ⟨d, d1, d2, d3⟩ := dg_nat c
      have l := ZZ_d Z c
      obtain ⟨i1, i2, i3, i4⟩ := pDg_r Z k (v * 10 + ((ch a).toNatClampNeg - 48)) (a + 1) (by omega)
      refine ⟨by omega, i2, fun _ _ => by omega, ?_⟩
      rw [d3] at i4 ⊢
      have : (v * 10 + d + 1) * 10 ^ k ≤ (v + 1) * 10 * 10 ^ k := Nat.mul_le_mul_right _ (by omega)
      rw [Nat.pow_succ, Nat.mul_comm (10 ^ k) 10, ← Nat.mul_assoc]
      omega
    · rw [if_neg c]
      have : 1 ≤ 10 ^ (k + 1) := Nat.pow_pos (by omega)
      have : (v + 1) * 1 ≤ (v + 1) * 10 ^ (k + 1) := Nat.mul_le_mul_left _ this
      exact ⟨Nat.le_refl _, ha, fun _ z => absurd z c, by omega⟩
/-- the model reads -/
def TM (h : HS) (ch : Nat → Int32) : Prop := gI h 0 30 = -1 ∧ ∀ a, a ≤ 61 → ∃ x, SC x (ch a) ∧ fX12_here (pI h 0 29 (nI a)) = some (x, pI h 0 29 (nI a))
theorem g2930 {v : Int32} : gI (pI h 0 29 v) 0 30 = gI h 0 30 := by rw [gI_pI, if_neg (by decide)]
theorem g29 {v : Int32} : gI (pI h 0 29 v) 0 29 = v := by rw [gI_pI, if_pos ⟨rfl, rfl⟩]
theorem m_fine (T : TM h ch) (v : Int32) : fX12_fine (pI h 0 29 v) = some (1, pI h 0 29 v) := by
  unfold fX12_fine
  rw [g2930, T.1, if_pos rfl]
theorem m_fault (T : TM h ch) (v p : Int32) : fX12_fault p (pI h 0 29 v) = some (pI (pI h 0 29 v) 0 30 p) := by
  unfold fX12_fault
  rw [m_fine T, bd_s, if_neg (by decide), nm_e1]
def bdM (h' : HS) : Prop := ¬ gI h' 0 30 = -1
theorem bdM_p {x : Int32} {f : Nat} (hf : f ≤ 60) : bdM (pI (pI h 0 29 x) 0 30 (nI f)) := by
  unfold bdM
  rw [gI_pI, if_pos ⟨rfl, rfl⟩]
  exact fun z => m1_ne (by omega) z.symm
theorem b_fine (B : bdM h) : fX12_fine h = some (0, h) := by
  unfold fX12_fine
  rw [if_neg B]
theorem b_fault (B : bdM h) (p : Int32) : fX12_fault p h = some h := by
  unfold fX12_fault
  rw [b_fine B, bd_s, if_pos rfl]
theorem b_pass (B : bdM h) (p : Int32) : fX12_passes p h = some (0, h) := by
  unfold fX12_passes
  rw [b_fine B, bd_s, if_pos rfl]
theorem b_need (B : bdM h) (p : Int32) : fX12_need p h = some h := by
  unfold fX12_need
  rw [b_pass B, bd_s, if_pos rfl, b_fault B, bv_s]
theorem b_num (B : bdM h) (p q : Int32) : fX12_number p q h = some (0, h) := by
  unfold fX12_number
  rw [b_fine B, bd_s, if_pos rfl]
theorem m_pass (T : TM h ch) {a : Nat} (ha : a ≤ 61) {p : Int32} (hp : (0 : Int32) ≤ p ∧ p ≤ 127) : fX12_passes p (pI h 0 29 (nI a)) = if ch a = p then some (1, pI h 0 29 (nI (a + 1))) else some (0, pI h 0 29 (nI a)) := by
  obtain ⟨x, x1, x2⟩ := T.2 a ha
  unfold fX12_passes
  rw [m_fine T, bd_s, if_neg (by decide), x2, bd_s]
  by_cases c : ch a = p
  · rw [if_pos ((sg_eq x1 hp).mpr c), if_pos c, nm_e1, g29, nI_1, pI_pI]
  · rw [if_neg (fun z => c ((sg_eq x1 hp).mp z)), if_neg c]
theorem m_need (T : TM h ch) {a : Nat} (ha : a ≤ 61) {p : Int32} (hp : (0 : Int32) ≤ p ∧ p ≤ 127) : fX12_need p (pI h 0 29 (nI a)) = if ch a = p then some (pI h 0 29 (nI (a + 1))) else some (pI (pI h 0 29 (nI a)) 0 30 (nI a)) := by
  unfold fX12_need
  rw [m_pass T ha hp]
  by_cases c : ch a = p
  · rw [if_pos c, if_pos c, bd_s, if_neg (by decide)]
  · rw [if_neg c, if_neg c, bd_s, if_pos rfl, g29, m_fault T, bv_s]
theorem m_n17 (T : TM h ch) (Z : ZZ ch) {D s : Nat} {M : Int32} (hs : s + D ≤ 1000) : ∀ (k a v n : Nat), s + D = a + k → a ≤ 60 → k < n → fX12_number_17 n (nI D) M (nI s) (nI v) (pI h 0 29 (nI a)) = fX12_number_69 M (nI s) (nI (pDg ch k v a).1) (pI h 0 29 (nI (pDg ch k v a).2)) := by
  intro k
  induction k with
  | zero =>
    intro a v n hk ha hn
    obtain ⟨m, rfl⟩ := fuel1 hn
    rw [fX12_number_17, g29, nI_add, if_pos (nI_le (by omega) (by omega)), pDg]
  | succ k ih =>
    intro a v n hk ha hn
    obtain ⟨m, rfl⟩ := fuel1 hn
    obtain ⟨x, x1, x2⟩ := T.2 a (by omega)
    rw [fX12_number_17, g29, nI_add, if_neg (nI_ge (by omega) (by omega)), x2, bd_s, f_in, bd_s, if10s, pDg]
    by_cases c : (48 : Int32) ≤ ch a ∧ ch a ≤ 57
    · rw [if_pos ((sc_dg x1).mpr c), if_pos c, x2, bd_s]
      obtain ⟨d, d1, d2, d3⟩ := dg_nat c
      have l := ZZ_d Z c
      simp only [nm_e1, g29, nI_1, pI_pI, sc_v x1 c]
      rw [d3, d2, Int32.mul_comm, dg_val]
      exact ih (a + 1) _ m (by omega) (by omega) (by omega)
    · rw [if_neg (fun z => c ((sc_dg x1).mp z)), if_neg c]
theorem m_num (T : TM h ch) (Z : ZZ ch) {D M a : Nat} (hD : 0 < D ∧ D ≤ 4) (hM : M < 2 ^ 31) (ha : a ≤ 60) : (∃ f, pNb ch D M a = .inl f ∧ f ≤ 60 ∧ ∃ x, fX12_number (nI D) (nI M) (pI h 0 29 (nI a)) = some (0, pI (pI h 0 29 (nI x)) 0 30 (nI f))) ∨ (∃ v e, pNb ch D M a = .inr (v, e) ∧ v ≤ M ∧ a < e ∧ e ≤ 60 ∧ fX12_number (nI D) (nI M) (pI h 0 29 (nI a)) = some (nI v, pI h 0 29 (nI e))) := by
  obtain ⟨r1, r2, r3, r4⟩ := pDg_r Z D 0 a ha
  have r4' : (pDg ch D 0 a).1 < 2 ^ 31 := by
    have : (0 + 1) * 10 ^ D ≤ 10 ^ 4 := by rw [Nat.zero_add, Nat.one_mul]; exact Nat.pow_le_pow_right (by omega) hD.2
    omega
  have e0 : fX12_number (nI D) (nI M) (pI h 0 29 (nI a)) = fX12_number_69 (nI M) (nI a) (nI (pDg ch D 0 a).1) (pI h 0 29 (nI (pDg ch D 0 a).2)) := by
    unfold fX12_number
    rw [m_fine T, bd_s, if_neg (by decide), nm_e1, g29, ← nI_0]
    exact m_n17 T Z (by omega) D a 0 FU (by omega) ha (FU_gt (by omega))
  unfold pNb
  by_cases c : (48 : Int32) ≤ ch a ∧ ch a ≤ 57
  · have l := r3 hD.1 c
    rw [if_pos c, e0]
    unfold fX12_number_69 fX12_number_104
    have ne : ¬ nI (pDg ch D 0 a).2 = nI a := fun z => by rw [nI_eq (by omega) (by omega)] at z; omega
    rw [g29, if_neg ne]
    by_cases c2 : (pDg ch D 0 a).1 ≤ M
    · rw [if_pos c2, if_pos (nI_le c2 hM), m_fine T, bd_s, if_neg (by decide)]
      exact Or.inr ⟨_, _, rfl, c2, l, r2, rfl⟩
    · rw [if_neg c2, if_neg (nI_ge (by omega) r4'), m_fault T, bv_s, show (1 : Int32) = nI 1 by decide, pk_sub (by omega), b_fine (bdM_p (by omega)), bd_s, if_pos rfl]
      exact Or.inl ⟨_, rfl, by omega, _, rfl⟩
  · have e1 : pDg ch D 0 a = (0, a) := by
      obtain ⟨D', rfl⟩ : ∃ D', D = D' + 1 := ⟨D - 1, by omega⟩
      rw [pDg, if_neg c]
    rw [if_neg c, e0, e1]
    unfold fX12_number_69 fX12_number_104
    rw [g29, if_pos rfl, m_fault T, bv_s, b_fine (bdM_p (by omega)), bd_s, if_pos rfl]
    exact Or.inl ⟨_, rfl, ha, _, rfl⟩
end PAR
