section BIT
theorem and_n {a b : Nat} (ha : a < 2 ^ 32) (hb : b < 2 ^ 32) : nI a &&& nI b = nI (a &&& b) := by
  apply Int32.toBitVec_inj.1
  apply BitVec.eq_of_toNat_eq
  have hle : a &&& b ≤ a := Nat.and_le_left
  rw [pk_tn (by omega)]
  show ((nI a).toBitVec &&& (nI b).toBitVec).toNat = _
  rw [BitVec.toNat_and, pk_tn ha, pk_tn hb]
theorem ush_n {n : Nat} (hn : n < 2 ^ 32) (s : Int32) (k : Nat) (hs : ((s.toUInt32 &&& Int32.toUInt32 31).toBitVec % 32).toNat = k) : iush (nI n) s = nI (n / 2 ^ k) := pk_ushrN hn s k hs
/-- Integer.bitCount as it is written -/
def bc1 (n : Nat) : Nat := n - (n / 2 ^ 1 &&& 1431655765)
def bc2 (a : Nat) : Nat := (a &&& 858993459) + (a / 2 ^ 2 &&& 858993459)
def bc3 (a : Nat) : Nat := (a + a / 2 ^ 4) &&& 252645135
def bc4 (a : Nat) : Nat := a + a / 2 ^ 8
def bc5 (a : Nat) : Nat := (a + a / 2 ^ 16) &&& 63
def popN : Nat → Nat → Nat
  | 0, _ => 0
  | k + 1, n => n % 2 + popN k (n / 2)
theorem popN_le : ∀ k n, popN k n ≤ k
  | 0, _ => Nat.le_refl 0
  | k + 1, n => by
    have := popN_le k (n / 2)
    rw [popN]
    omega
def al (P : Nat → Bool) : Nat → Nat → Bool
  | 0, lo => P lo
  | k + 1, lo => al P k lo && al P k (lo + 2 ^ k)
theorem al_x {P : Nat → Bool} : ∀ k lo, al P k lo = true → ∀ n, lo ≤ n → n < lo + 2 ^ k → P n = true
  | 0, lo, h, n, h1, h2 => by
    rw [Nat.pow_zero] at h2
    rw [show n = lo by omega]
    exact h
  | k + 1, lo, h, n, h1, h2 => by
    rw [al, Bool.and_eq_true] at h
    rw [Nat.pow_succ] at h2
    by_cases c : n < lo + 2 ^ k
    · exact al_x k lo h.1 n h1 c
    · exact al_x k (lo + 2 ^ k) h.2 n (by omega) (by omega)
theorem bc_pop : al (fun n => Nat.beq (bc5 (bc4 (bc3 (bc2 (bc1 n))))) (popN 15 n)) 15 0 = true := by decide +kernel
theorem e_bc {P : Nat} (hP : P < 2 ^ 15) (h : HS) : fJ6_bitCount_0f7a4 (nI P) h = some (nI (popN 15 P), h) := by
  have h0 := Nat.eq_of_beq_eq_true (al_x 15 0 bc_pop P (by omega) (by omega))
  rw [← h0]
  unfold fJ6_bitCount_0f7a4
  simp only [nm_e1]
  have e1 : nI P - (iush (nI P) 1 &&& 1431655765) = nI (bc1 P) := by
    have : P / 2 ^ 1 &&& 1431655765 ≤ P / 2 ^ 1 := Nat.and_le_left
    rw [ush_n (by omega) 1 1 (by decide), show (1431655765 : Int32) = nI 1431655765 by decide, and_n (by omega) (by omega), pk_sub (by omega)]
    rfl
  have b1 : bc1 P ≤ P := Nat.sub_le _ _
  rw [e1]
  generalize bc1 P = a at *
  have e2 : (nI a &&& 858993459) + (iush (nI a) 2 &&& 858993459) = nI (bc2 a) := by
    rw [ush_n (by omega) 2 2 (by decide), show (858993459 : Int32) = nI 858993459 by decide, and_n (by omega) (by omega), and_n (by omega) (by omega), nI_add]
    rfl
  have b2 : bc2 a ≤ 2 * a := by
    unfold bc2
    have h1 : a &&& 858993459 ≤ a := Nat.and_le_left
    have h2 : a / 2 ^ 2 &&& 858993459 ≤ a / 2 ^ 2 := Nat.and_le_left
    omega
  rw [e2]
  generalize bc2 a = b at *
  have e3 : (nI b + iush (nI b) 4) &&& 252645135 = nI (bc3 b) := by
    rw [ush_n (by omega) 4 4 (by decide), show (252645135 : Int32) = nI 252645135 by decide, nI_add, and_n (by omega) (by omega)]
    rfl
  have b3 : bc3 b ≤ b + b / 2 ^ 4 := Nat.and_le_left
  rw [e3]
  generalize bc3 b = c at *
  have e4 : nI c + iush (nI c) 8 = nI (bc4 c) := by
    rw [ush_n (by omega) 8 8 (by decide), nI_add]
    rfl
  have b4 : bc4 c = c + c / 2 ^ 8 := rfl
  rw [e4]
  generalize bc4 c = d at *
  have e5 : (nI d + iush (nI d) 16) &&& 63 = nI (bc5 d) := by
    rw [ush_n (by omega) 16 16 (by decide), show (63 : Int32) = nI 63 by decide, nI_add, and_n (by omega) (by omega)]
    rfl
  rw [e5]
end BIT
