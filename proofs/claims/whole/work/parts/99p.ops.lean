section TLP
variable {h : HS} {ch : Nat → Int32} {A : Nat}
/-- a load's number below N -/
def pNl (ch : Nat → Int32) (N a : Nat) : Sum Nat (Nat × Nat) := if (48 : Int32) ≤ ch a ∧ ch a ≤ 57 then (if (pDg ch 2 0 a).1 < N then .inr (pDg ch 2 0 a) else .inl ((pDg ch 2 0 a).2 - 1)) else .inl a
abbrev PTm : Type := Int32 × Nat × Nat × Int32
/-- a term behind its loads -/
def pTz (ch : Nat → Int32) (s : Int32) (o r a : Nat) : Sum Nat (PTm × Nat) := if ch a = 44 then (if s = 98 ∧ ch (a + 1) = 45 then (match pNb ch 3 999 (a + 2) with
    | .inl f => .inl f
    | .inr q => .inr ((s, o, r, -nI q.1), q.2)) else (match pNb ch 3 999 (a + 1) with
    | .inl f => .inl f
    | .inr q => .inr ((s, o, r, nI q.1), q.2))) else .inl a
def pTm (ch : Nat → Int32) (N a : Nat) : Sum Nat (PTm × Nat) := if ch a = 108 ∨ ch a = 118 ∨ ch a = 98 then (match pNl ch N (a + 1) with
    | .inl f => .inl f
    | .inr q => if ch a = 118 then (if ch q.2 = 45 then (match pNl ch N (q.2 + 1) with
        | .inl f => .inl f
        | .inr w => if w.1 = q.1 then .inl (w.2 - 1) else pTz ch (ch a) q.1 w.1 w.2) else .inl q.2) else pTz ch (ch a) q.1 0 q.2) else .inl a
def tmOK (N : Nat) (tm : PTm) : Prop := (tm.1 = 108 ∨ tm.1 = 118 ∨ tm.1 = 98) ∧ tm.2.1 < N ∧ (tm.1 = 118 → tm.2.2.1 < N ∧ ¬ tm.2.2.1 = tm.2.1)
theorem le_sub1 {v N : Nat} (hv : v < 2 ^ 31) (hN : N ≤ 15) : nI v ≤ nI N - 1 ↔ v < N := by
  rw [i32_le]
  by_cases c0 : N = 0
  · rw [c0, nI_0, nI_toInt hv, show ((0 : Int32) - 1).toInt = -1 by decide +kernel]
    omega
  · rw [show (1 : Int32) = nI 1 by decide, pk_sub (by omega), nI_toInt hv, nI_toInt (by omega)]
    omega
theorem c_ld (T : TC A h ch) (Z : ZZ ch) {N a : Nat} (hN : N ≤ 15) (ha : a ≤ 60) : (∃ f, pNl ch N a = .inl f ∧ f ≤ 60 ∧ ∃ v x, fX2_loadBelow A (nI N) (pI h A 2 (nI a)) = some (v, pI (pI h A 2 (nI x)) A 3 (nI f))) ∨ (∃ v e, pNl ch N a = .inr (v, e) ∧ v < N ∧ a < e ∧ e ≤ 60 ∧ fX2_loadBelow A (nI N) (pI h A 2 (nI a)) = some (nI v, pI h A 2 (nI e))) := by
  obtain ⟨r1, r2, r3, r4⟩ := pDg_r Z 2 0 a ha
  obtain ⟨x, x1, x2⟩ := T.2 a (by omega)
  by_cases c : (48 : Int32) ≤ ch a ∧ ch a ≤ 57
  · have l := ZZ_d Z c
    obtain ⟨d, d1, d2, d3⟩ := dg_nat c
    have r3' := r3 (by omega) c
    have key : fX2_loadBelow A (nI N) (pI h A 2 (nI a)) = fX2_loadBelow_71 A (nI N) (nI (pDg ch 2 0 a).1) (pI h A 2 (nI (pDg ch 2 0 a).2)) := by
      obtain ⟨y, y1, y2⟩ := T.2 (a + 1) (by omega)
      unfold fX2_loadBelow
      rw [x2, bd_s, f_dig, bd_s, if10s, if_pos ((sc_dg x1).mpr c), x2, bd_s]
      simp only [nm_e1, g22, nI_1, pI_pI, y2, bd_s, f_dig, if10s]
      rw [sc_v x1 c, d2, show (48 : Int32) = nI 48 by decide, pk_sub (by omega), show 48 + d - 48 = d by omega, ← show (48 : Int32) = nI 48 by decide]
      rw [show pDg ch 2 0 a = pDg ch 1 d (a + 1) by rw [pDg, if_pos c, d3, Nat.zero_mul, Nat.zero_add], pDg]
      by_cases c' : (48 : Int32) ≤ ch (a + 1) ∧ ch (a + 1) ≤ 57
      · obtain ⟨d', d1', d2', d3'⟩ := dg_nat c'
        rw [if_pos ((sc_dg y1).mpr c'), if_pos c', sc_v y1 c', d3', d2', dg_val]
        rfl
      · rw [if_neg (fun z => c' ((sc_dg y1).mp z)), if_neg c']
    rw [key]
    unfold pNl fX2_loadBelow_71
    rw [if_pos c]
    by_cases c2 : (pDg ch 2 0 a).1 < N
    · rw [if_pos c2, if_pos (nI_lt c2 (by omega))]
      exact Or.inr ⟨_, _, rfl, c2, r3', r2, rfl⟩
    · rw [if_neg c2, if_neg (nI_nlt (by omega) (by omega)), g22, c_fail T, bv_s, show (1 : Int32) = nI 1 by decide, pk_sub (by omega)]
      exact Or.inl ⟨_, rfl, by omega, _, _, rfl⟩
  · unfold pNl fX2_loadBelow
    rw [x2, bd_s, f_dig, bd_s, if10s, if_neg (fun z => c ((sc_dg x1).mp z)), if_neg c, g22, c_fail T, bv_s]
    exact Or.inl ⟨_, rfl, ha, _, _, rfl⟩
theorem m_ld (T : TM h ch) (Z : ZZ ch) {N a : Nat} (hN : N ≤ 15) (e0 : gI h 0 0 = nI N) (ha : a ≤ 60) : (∃ f, pNl ch N a = .inl f ∧ f ≤ 60 ∧ ∃ x, fX12_loadHere (pI h 0 29 (nI a)) = some (0, pI (pI h 0 29 (nI x)) 0 30 (nI f))) ∨ (∃ v e, pNl ch N a = .inr (v, e) ∧ v < N ∧ a < e ∧ e ≤ 60 ∧ fX12_loadHere (pI h 0 29 (nI a)) = some (nI v, pI h 0 29 (nI e))) := by
  obtain ⟨r1, r2, r3, r4⟩ := pDg_r Z 2 0 a ha
  have g0 : gI (pI h 0 29 (nI a)) 0 0 = nI N := by rw [gI_pI, if_neg (by decide), e0]
  have e1 : fX12_number 2 (nI N - 1) (pI h 0 29 (nI a)) = fX12_number_69 (nI N - 1) (nI a) (nI (pDg ch 2 0 a).1) (pI h 0 29 (nI (pDg ch 2 0 a).2)) := by
    unfold fX12_number
    rw [m_fine T, bd_s, if_neg (by decide), nm_e1, g29, show (2 : Int32) = nI 2 by decide, ← nI_0]
    exact m_n17 T Z (by omega) 2 a 0 FU (by omega) ha (FU_gt (by omega))
  unfold fX12_loadHere pNl
  rw [g0, e1]
  by_cases c : (48 : Int32) ≤ ch a ∧ ch a ≤ 57
  · have l := r3 (by omega) c
    rw [if_pos c]
    unfold fX12_number_69 fX12_number_104
    have ne : ¬ nI (pDg ch 2 0 a).2 = nI a := fun z => by rw [nI_eq (by omega) (by omega)] at z; omega
    rw [g29, if_neg ne]
    by_cases c2 : (pDg ch 2 0 a).1 < N
    · rw [if_pos c2, if_pos ((le_sub1 (by omega) hN).mpr c2), m_fine T, bd_s, if_neg (by decide), bd_s]
      exact Or.inr ⟨_, _, rfl, c2, l, r2, rfl⟩
    · rw [if_neg c2, if_neg (fun z => c2 ((le_sub1 (by omega) hN).mp z)), m_fault T, bv_s, show (1 : Int32) = nI 1 by decide, pk_sub (by omega), b_fine (bdM_p (by omega)), bd_s, if_pos rfl, bd_s]
      exact Or.inl ⟨_, rfl, by omega, _, rfl⟩
  · have e2 : pDg ch 2 0 a = (0, a) := by rw [pDg, if_neg c]
    rw [if_neg c, e2]
    unfold fX12_number_69 fX12_number_104
    rw [g29, if_pos rfl, m_fault T, bv_s, b_fine (bdM_p (by omega)), bd_s, if_pos rfl, bd_s]
    exact Or.inl ⟨_, rfl, ha, _, rfl⟩
end TLP
