section SUB
theorem and2 (a b e f : Nat) (he : e < 2) (hf : f < 2) : (2 * a + e) &&& (2 * b + f) = 2 * (a &&& b) + (if e = 1 ∧ f = 1 then 1 else 0) := by
  have h1 : ((2 * a + e) &&& (2 * b + f)) / 2 = a &&& b := by
    rw [Nat.and_div_two, show (2 * a + e) / 2 = a by omega, show (2 * b + f) / 2 = b by omega]
  have h2 : ((2 * a + e) &&& (2 * b + f)) % 2 = 1 ↔ e = 1 ∧ f = 1 := by
    rw [Nat.and_mod_two_eq_one]
    constructor
    · rintro ⟨h3, h4⟩
      omega
    · rintro ⟨h3, h4⟩
      omega
  by_cases c : e = 1 ∧ f = 1
  · rw [if_pos c]
    have := h2.mpr c
    omega
  · rw [if_neg c]
    have : ¬ ((2 * a + e) &&& (2 * b + f)) % 2 = 1 := fun z => c (h2.mp z)
    omega
/-- the r-th of the sets that lie in P -/
def pdep : Nat → Nat → Nat → Nat
  | 0, _, _ => 0
  | k + 1, P, r => if P % 2 = 1 then 2 * pdep k (P / 2) (r / 2) + r % 2 else 2 * pdep k (P / 2) r
theorem pd_0 : ∀ k P, pdep k P 0 = 0
  | 0, _ => rfl
  | k + 1, P => by
    rw [pdep, Nat.zero_div, pd_0 k (P / 2)]
    split <;> rfl
theorem pd_sub : ∀ k P r, pdep k P r &&& P = pdep k P r
  | 0, P, r => Nat.zero_and P
  | k + 1, P, r => by
    rw [pdep]
    by_cases c : P % 2 = 1
    · rw [if_pos c]
      have e : P = 2 * (P / 2) + 1 := by omega
      have h := and2 (pdep k (P / 2) (r / 2)) (P / 2) (r % 2) 1 (by omega) (by omega)
      rw [← e, pd_sub k (P / 2) (r / 2)] at h
      rw [h]
      have : r % 2 = 0 ∨ r % 2 = 1 := by omega
      rcases this with z | z <;> rw [z] <;> rfl
    · rw [if_neg c]
      have e : P = 2 * (P / 2) + 0 := by omega
      have h := and2 (pdep k (P / 2) r) (P / 2) 0 0 (by omega) (by omega)
      rw [← e, pd_sub k (P / 2) r] at h
      exact h
theorem pd_le (k P r : Nat) : pdep k P r ≤ P := by
  have h : pdep k P r &&& P ≤ P := Nat.and_le_right
  rw [pd_sub] at h
  exact h
theorem pd_mono : ∀ k P r s, r < s → s < 2 ^ popN k P → pdep k P r < pdep k P s
  | 0, P, r, s, h1, h2 => by
    rw [popN, Nat.pow_zero] at h2
    omega
  | k + 1, P, r, s, h1, h2 => by
    rw [popN] at h2
    rw [pdep, pdep]
    by_cases c : P % 2 = 1
    · rw [c, Nat.pow_add, Nat.pow_one] at h2
      rw [if_pos c, if_pos c]
      by_cases z : r / 2 = s / 2
      · rw [z]; omega
      · have := pd_mono k (P / 2) (r / 2) (s / 2) (by omega) (by omega)
        omega
    · rw [show P % 2 = 0 by omega, Nat.zero_add] at h2
      rw [if_neg c, if_neg c]
      have := pd_mono k (P / 2) r s h1 h2
      omega
theorem pd_surj : ∀ k P m, P < 2 ^ k → m &&& P = m → ∃ r, r < 2 ^ popN k P ∧ m = pdep k P r
  | 0, P, m, h1, h2 => by
    rw [Nat.pow_zero] at h1
    rw [show P = 0 by omega, Nat.and_zero] at h2
    exact ⟨0, by rw [popN]; decide, h2.symm⟩
  | k + 1, P, m, h1, h2 => by
    rw [Nat.pow_succ] at h1
    have hm : m = 2 * (m / 2) + m % 2 := by omega
    have hP : P = 2 * (P / 2) + P % 2 := by omega
    have h := and2 (m / 2) (P / 2) (m % 2) (P % 2) (by omega) (by omega)
    rw [← hm, ← hP, h2] at h
    by_cases c : P % 2 = 1
    · have h3 : m / 2 &&& P / 2 = m / 2 := by split at h <;> omega
      obtain ⟨r, r1, r2⟩ := pd_surj k (P / 2) (m / 2) (by omega) h3
      refine ⟨2 * r + m % 2, ?_, ?_⟩
      · rw [popN, c, Nat.pow_add, Nat.pow_one]
        omega
      · rw [pdep, if_pos c, show (2 * r + m % 2) / 2 = r by omega, show (2 * r + m % 2) % 2 = m % 2 by omega, ← r2]
        exact hm
    · rw [if_neg (fun z => c z.2)] at h
      have h3 : m / 2 &&& P / 2 = m / 2 := by omega
      obtain ⟨r, r1, r2⟩ := pd_surj k (P / 2) (m / 2) (by omega) h3
      refine ⟨r, ?_, ?_⟩
      · rw [popN, show P % 2 = 0 by omega, Nat.zero_add]
        exact r1
      · rw [pdep, if_neg c, ← r2]
        omega
theorem pd_cm : ∀ k u c, u < 2 ^ k → c &&& u = c → (c + 2 ^ k - 1 - u) &&& u = c
  | 0, u, c, h1, h2 => by
    rw [Nat.pow_zero] at h1
    rw [show u = 0 by omega, Nat.and_zero] at h2 ⊢
    exact h2
  | k + 1, u, c, h1, h2 => by
    rw [Nat.pow_succ] at h1 ⊢
    have hc : c = 2 * (c / 2) + c % 2 := by omega
    have hu : u = 2 * (u / 2) + u % 2 := by omega
    have h := and2 (c / 2) (u / 2) (c % 2) (u % 2) (by omega) (by omega)
    rw [← hc, ← hu, h2] at h
    have h3 : c / 2 &&& u / 2 = c / 2 := by split at h <;> omega
    have ih := pd_cm k (u / 2) (c / 2) (by omega) h3
    have h5 : ¬ (c % 2 = 1 ∧ u % 2 = 0) := by
      rintro ⟨z1, z2⟩
      rw [if_neg (by omega)] at h
      omega
    generalize hp : 2 ^ k = K at *
    have e : c + K * 2 - 1 - u = 2 * (c / 2 + K - 1 - u / 2) + (1 + c % 2 - u % 2) := by omega
    have h4 := and2 (c / 2 + K - 1 - u / 2) (u / 2) (1 + c % 2 - u % 2) (u % 2) (by omega) (by omega)
    rw [← hu, ← e, ih] at h4
    rw [h4]
    by_cases z : u % 2 = 1
    · by_cases y : c % 2 = 1
      · rw [if_pos (by omega)]; omega
      · rw [if_neg (by omega)]; omega
    · rw [if_neg (by omega)]
      omega
theorem pd_next : ∀ k P r, P < 2 ^ k → r + 1 < 2 ^ popN k P → (pdep k P r + 2 ^ k - P) &&& P = pdep k P (r + 1)
  | 0, P, r, h1, h2 => by
    rw [popN, Nat.pow_zero] at h2
    omega
  | k + 1, P, r, h1, h2 => by
    rw [Nat.pow_succ] at h1 ⊢
    rw [popN] at h2
    have hP : P = 2 * (P / 2) + P % 2 := by omega
    rw [pdep, pdep]
    by_cases c : P % 2 = 1
    · rw [c, Nat.pow_add, Nat.pow_one] at h2
      rw [if_pos c, if_pos c]
      have hs := pd_sub k (P / 2) (r / 2)
      have hl := pd_le k (P / 2) (r / 2)
      by_cases z : r % 2 = 1
      · have ih := pd_next k (P / 2) (r / 2) (by omega) (by omega)
        generalize hp : 2 ^ k = K at *
        rw [show (r + 1) / 2 = r / 2 + 1 by omega, show (r + 1) % 2 = 0 by omega, z, ← ih]
        generalize pdep k (P / 2) (r / 2) = b at *
        have h4 := and2 (b + K - P / 2) (P / 2) 0 1 (by omega) (by omega)
        rw [← c, ← hP, if_neg (by omega)] at h4
        rw [← h4]
        congr 1
        omega
      · have cm := pd_cm k (P / 2) _ (by omega) hs
        generalize hp : 2 ^ k = K at *
        rw [show (r + 1) / 2 = r / 2 by omega, show (r + 1) % 2 = 1 by omega, show r % 2 = 0 by omega]
        generalize pdep k (P / 2) (r / 2) = b at *
        have h4 := and2 (b + K - 1 - P / 2) (P / 2) 1 1 (by omega) (by omega)
        rw [cm, if_pos ⟨rfl, rfl⟩] at h4
        rw [← h4]
        congr 1
        · omega
        · omega
    · rw [show P % 2 = 0 by omega, Nat.zero_add] at h2
      rw [if_neg c, if_neg c]
      have ih := pd_next k (P / 2) r (by omega) h2
      have hl := pd_le k (P / 2) r
      generalize hp : 2 ^ k = K at *
      rw [← ih]
      generalize pdep k (P / 2) r = b at *
      have h4 := and2 (b + K - P / 2) (P / 2) 0 0 (by omega) (by omega)
      rw [if_neg (by omega)] at h4
      rw [← Nat.add_zero (2 * (b + K - P / 2 &&& P / 2)), ← h4]
      congr 1
      · omega
      · omega
theorem pd_last (k P : Nat) (h : P < 2 ^ k) : pdep k P (2 ^ popN k P - 1) = P := by
  obtain ⟨r, h1, h2⟩ := pd_surj k P P h (Nat.and_self P)
  by_cases c : r = 2 ^ popN k P - 1
  · rw [← c, ← h2]
  · have := pd_mono k P r (2 ^ popN k P - 1) (by omega) (by omega)
    have := pd_le k P (2 ^ popN k P - 1)
    omega
/-- between one of the sets and the next one there is none -/
theorem pd_gap {k P r m : Nat} (h : P < 2 ^ k) (hr : r + 1 < 2 ^ popN k P) (h1 : pdep k P r < m) (h2 : m < pdep k P (r + 1)) : ¬ m &&& P = m := by
  intro hm
  obtain ⟨s, s1, s2⟩ := pd_surj k P m h hm
  subst s2
  by_cases c : s ≤ r
  · by_cases c2 : s = r
    · subst c2; omega
    · have := pd_mono k P s r (by omega) (by omega)
      omega
  · by_cases c2 : s = r + 1
    · subst c2; omega
    · have := pd_mono k P (r + 1) s (by omega) s1
      omega
theorem i_next {P b : Nat} (hP : P < 2 ^ 15) (hb : b < P) : (nI b - nI P) &&& nI P = nI ((b + 2 ^ 15 - P) &&& P) := by
  have e1 : nI b - nI P = nI (b + 2 ^ 32 - P) := by
    apply Int32.toBitVec_inj.1
    apply BitVec.eq_of_toNat_eq
    rw [pk_tn (by omega)]
    show ((nI b).toBitVec - (nI P).toBitVec).toNat = _
    rw [BitVec.toNat_sub, pk_tn (by omega), pk_tn (by omega)]
    omega
  rw [e1, and_n (by omega) (by omega)]
  congr 1
  have h1 : ∀ x, x &&& P = (x % 2 ^ 15) &&& P := fun x => by
    rw [← Nat.and_two_pow_sub_one_eq_mod, Nat.and_assoc, Nat.and_comm (2 ^ 15 - 1) P, Nat.and_two_pow_sub_one_eq_mod, Nat.mod_eq_of_lt hP]
  rw [h1 (b + 2 ^ 32 - P)]
  congr 1
  omega
theorem i_sub {P m : Nat} (hP : P < 2 ^ 15) (hm : m < 2 ^ 15) : nI m &&& (nI P ^^^ -1) = 0 ↔ m &&& P = m := by
  have e : (nI m &&& (nI P ^^^ -1)).toBitVec = (nI m).toBitVec &&& ~~~(nI P).toBitVec := by
    show (nI m).toBitVec &&& ((nI P).toBitVec ^^^ (-1 : Int32).toBitVec) = _
    rw [show (-1 : Int32).toBitVec = BitVec.allOnes 32 by decide, BitVec.xor_allOnes]
  have e2 : m &&& P = m ↔ (nI m).toBitVec &&& (nI P).toBitVec = (nI m).toBitVec := by
    constructor
    · intro h
      apply BitVec.eq_of_toNat_eq
      rw [BitVec.toNat_and, pk_tn (by omega), pk_tn (by omega), h]
    · intro h
      have := congrArg BitVec.toNat h
      rw [BitVec.toNat_and, pk_tn (by omega), pk_tn (by omega)] at this
      exact this
  have e3 : nI m &&& (nI P ^^^ -1) = 0 ↔ (nI m).toBitVec &&& ~~~(nI P).toBitVec = 0#32 := by
    rw [← e]
    constructor
    · intro h; rw [h]; rfl
    · intro h
      apply Int32.toBitVec_inj.1
      rw [h]; rfl
  rw [e3, e2]
  generalize (nI m).toBitVec = x
  generalize (nI P).toBitVec = y
  constructor
  · intro h
    apply BitVec.eq_of_getLsbD_eq
    intro i hi
    have h1 : (x &&& ~~~y).getLsbD i = false := by rw [h]; exact BitVec.getLsbD_zero
    rw [BitVec.getLsbD_and, BitVec.getLsbD_not] at h1
    rw [BitVec.getLsbD_and]
    revert h1
    cases x.getLsbD i <;> cases y.getLsbD i <;> simp [hi]
  · intro h
    apply BitVec.eq_of_getLsbD_eq
    intro i hi
    have h1 : (x &&& y).getLsbD i = x.getLsbD i := by rw [h]
    rw [BitVec.getLsbD_and] at h1
    rw [BitVec.getLsbD_and, BitVec.getLsbD_not, BitVec.getLsbD_zero]
    revert h1
    cases x.getLsbD i <;> cases y.getLsbD i <;> simp [hi]
theorem btP_n {b i : Nat} (hb : b < 2 ^ 31) (hi : i ≤ 15) : btP (nI b) i = nI (b / 2 ^ i % 2) := by
  have hs2 : ((nI i &&& 31).toBitVec.smod 32).toNat = i := by
    have : ∀ k : Fin 16, ((nI k.val &&& 31).toBitVec.smod 32).toNat = k.val := by decide +kernel
    exact this ⟨i, by omega⟩
  have : b / 2 ^ i ≤ b := Nat.div_le_self _ _
  unfold btP
  rw [pk_shrN hb _ i hs2, pk_andN (by omega) 1 (by decide), Nat.pow_one]
end SUB
