section TLM
variable {h : HS} {ch : Nat → Int32} {N t : Nat} {K : Int32 → Int32 → HS → Option (Int32 × HS)}
/-- all but where the model reads -/
def FMm (h h' : HS) : Prop := ∀ b j, ¬ (b = 0 ∧ (j = 29 ∨ j = 30)) → gI h' b j = gI h b j
theorem FMm_b {x f : Int32} : FMm h (pI (pI h 0 29 x) 0 30 f) := fun b j z => by rw [gI_pI, if_neg (by omega), gI_pI, if_neg (by omega)]
theorem ld_bad (B : bdM h) : fX12_loadHere h = some (0, h) := by
  unfold fX12_loadHere
  rw [b_num B, bd_s]
theorem t155_bad {v2 v4 v5 v6 : Int32} (B : bdM h) : fX12_telling_155 K v2 v4 v5 v6 h = some (-1 - gI h 0 30, h) := by
  unfold fX12_telling_155 fX12_telling_181 fX12_telling_182
  simp only [b_need B, bv_s, b_pass B, bd_s, b_num B, b_fine B, if_true, ite_self]
theorem t100_bad {v2 v4 r20 : Int32} (B : bdM h) : (if v4 = (118 : Int32) then (bv (fX12_need (45 : Int32) h) (fun h22 => bd (fX12_loadHere h22) (fun r24 h23 => if r24 = r20 then (bv (fX12_fault (((gI h23 0 29) - (1 : Int32))) h23) (fun h26 => fX12_telling_155 K v2 v4 r20 r24 h26)) else (fX12_telling_155 K v2 v4 r20 r24 h23)))) else (fX12_telling_155 K v2 v4 r20 (-1 : Int32) h)) = some (-1 - gI h 0 30, h) := by
  rw [b_need B, bv_s, ld_bad B, bd_s, b_fault B, bv_s, t155_bad B, ite_self, t155_bad B, ite_self]
/-- a term, as the model keeps it -/
def tm4 (h : HS) (k : Nat) (tm : PTm) : HS := pI (pI (pI (pI h 23 k tm.1) 23 (k + 1) (nI tm.2.1)) 23 (k + 2) (if tm.1 = 118 then nI tm.2.2.1 else -1)) 23 (k + 3) tm.2.2.2
theorem tm4_g {k : Nat} {tm : PTm} (b j : Nat) (z : ¬ (b = 23 ∧ k ≤ j ∧ j < k + 4)) : gI (tm4 h k tm) b j = gI h b j := by
  unfold tm4
  rw [gI_pI, if_neg (by omega), gI_pI, if_neg (by omega), gI_pI, if_neg (by omega), gI_pI, if_neg (by omega)]
theorem tm4_v {k : Nat} {tm : PTm} : gI (tm4 h k tm) 23 k = tm.1 ∧ gI (tm4 h k tm) 23 (k + 1) = nI tm.2.1 ∧ gI (tm4 h k tm) 23 (k + 2) = (if tm.1 = 118 then nI tm.2.2.1 else -1) ∧ gI (tm4 h k tm) 23 (k + 3) = tm.2.2.2 := by
  unfold tm4
  refine ⟨?_, ?_, ?_, ?_⟩
  · rw [gI_pI, if_neg (by omega), gI_pI, if_neg (by omega), gI_pI, if_neg (by omega), gI_pI, if_pos ⟨rfl, rfl⟩]
  · rw [gI_pI, if_neg (by omega), gI_pI, if_neg (by omega), gI_pI, if_pos ⟨rfl, rfl⟩]
  · rw [gI_pI, if_neg (by omega), gI_pI, if_pos ⟨rfl, rfl⟩]
  · rw [gI_pI, if_pos ⟨rfl, rfl⟩]
theorem t182_ok {c e v : Nat} {v4 v6 s0 : Int32} {o p : Nat} {st : HS} (T : TM h ch) (e50 : gI h 0 50 = nI t) (ht : t < 6) (hc : c < 16) (en : fX12_number 3 999 st = some (nI v, pI h 0 29 (nI e))) (h6 : v6 = if v4 = 118 then nI p else -1) : fX12_telling_182 K (nI c) v4 (nI o) v6 s0 st = bd (fX12_passes 59 (pI (tm4 h (4 * (16 * t + c)) (v4, o, p, if s0 = 0 then nI v else -nI v)) 0 29 (nI e))) (fun r49 h48 => K (nI (c + 1)) r49 h48) := by
  have e9 : (4 : Int32) * (16 * nI t + nI c) = nI (4 * (16 * t + c)) := by
    rw [show (4 : Int32) = nI 4 by decide, show (16 : Int32) = nI 16 by decide, pk_mul, nI_add, pk_mul]
  have g50 : gI (pI h 0 29 (nI e)) 0 50 = nI t := by rw [gI_pI, if_neg (by decide), e50]
  obtain ⟨k, ek⟩ : ∃ k, k = 4 * (16 * t + c) := ⟨_, rfl⟩
  have hk : k + 3 < 384 := by omega
  have i0 : inb (nI k) 384 = true := inb_n (by omega) (by omega)
  have i1 : inb (nI (k + 1)) 384 = true := inb_n (by omega) (by omega)
  have i2 : inb (nI (k + 2)) 384 = true := inb_n (by omega) (by omega)
  have i3 : inb (nI (k + 3)) 384 = true := inb_n (by omega) (by omega)
  have a2 : nI k + 2 = nI (k + 2) := by rw [show (2 : Int32) = nI 2 by decide, nI_add]
  have a3 : nI k + 3 = nI (k + 3) := by rw [show (3 : Int32) = nI 3 by decide, nI_add]
  have cm : ∀ w : Int32, pI (pI (pI (pI (pI h 0 29 (nI e)) 23 k v4) 23 (k + 1) (nI o)) 23 (k + 2) v6) 23 (k + 3) w = pI (tm4 h k (v4, o, p, w)) 0 29 (nI e) := fun w => by
    unfold tm4
    rw [h6, pI_comm (h := h) (by omega), pI_comm (a := 0) (k := 29) (by omega), pI_comm (a := 0) (k := 29) (by omega), pI_comm (a := 0) (k := 29) (by omega)]
  unfold fX12_telling_182 fX12_telling_273
  rw [en, bd_s, m_fine T, bd_s, if_neg (by decide), nm_e1, g50, e9, ← ek]
  simp only [nI_1, a2, a3, i0, i1, i2, i3, ck_t, nm_e1, nI_clamp (show k < 2 ^ 31 by omega), nI_clamp (show k + 1 < 2 ^ 31 by omega), nI_clamp (show k + 2 < 2 ^ 31 by omega), nI_clamp (show k + 3 < 2 ^ 31 by omega), cm]
  by_cases c0 : s0 = 0
  · rw [if_pos c0, if_pos c0]
  · rw [if_neg c0, if_neg c0]
theorem m_z {c a : Nat} {v4 v6 : Int32} {o p : Nat} (T : TM h ch) (Z : ZZ ch) (e50 : gI h 0 50 = nI t) (ht : t < 6) (hc : c < 16) (h6 : v6 = if v4 = 118 then nI p else -1) (ha : a ≤ 60) : (∃ f hF, pTz ch v4 o p a = .inl f ∧ f ≤ 60 ∧ fX12_telling_155 K (nI c) v4 (nI o) v6 (pI h 0 29 (nI a)) = some (-1 - nI f, hF) ∧ FMm h hF) ∨ (∃ tm e, pTz ch v4 o p a = .inr (tm, e) ∧ e ≤ 60 ∧ fX12_telling_155 K (nI c) v4 (nI o) v6 (pI h 0 29 (nI a)) = bd (fX12_passes 59 (pI (tm4 h (4 * (16 * t + c)) tm) 0 29 (nI e))) (fun r49 h48 => K (nI (c + 1)) r49 h48)) := by
  have e3i : (3 : Int32) = nI 3 := by decide
  have e9i : (999 : Int32) = nI 999 := by decide +kernel
  have bad : ∀ (f x : Nat) (s0 : Int32) (st : HS), f ≤ 60 → fX12_number 3 999 st = some (0, pI (pI h 0 29 (nI x)) 0 30 (nI f)) → fX12_telling_182 K (nI c) v4 (nI o) v6 s0 st = some (-1 - nI f, pI (pI h 0 29 (nI x)) 0 30 (nI f)) := by
    intro f x s0 st hf en
    have B := bdM_p (h := h) (x := nI x) hf
    unfold fX12_telling_182
    rw [en, bd_s, b_fine B, bd_s, if_pos rfl, gI_pI, if_pos ⟨rfl, rfl⟩]
  have num : ∀ (b : Nat) (s0 : Int32), b ≤ 60 → (∃ f hF, pNb ch 3 999 b = .inl f ∧ f ≤ 60 ∧ fX12_telling_182 K (nI c) v4 (nI o) v6 s0 (pI h 0 29 (nI b)) = some (-1 - nI f, hF) ∧ FMm h hF) ∨ (∃ v e, pNb ch 3 999 b = .inr (v, e) ∧ e ≤ 60 ∧ fX12_telling_182 K (nI c) v4 (nI o) v6 s0 (pI h 0 29 (nI b)) = bd (fX12_passes 59 (pI (tm4 h (4 * (16 * t + c)) (v4, o, p, if s0 = 0 then nI v else -nI v)) 0 29 (nI e))) (fun r49 h48 => K (nI (c + 1)) r49 h48)) := by
    intro b s0 hb
    rcases m_num T Z (D := 3) (M := 999) (a := b) (by omega) (by omega) hb with ⟨f, e1, e2, x, e3⟩ | ⟨v, e, e1, e2, e3, e4, e5⟩
    · rw [← e3i, ← e9i] at e3
      exact Or.inl ⟨f, _, e1, e2, bad f x s0 _ e2 e3, FMm_b⟩
    · rw [← e3i, ← e9i] at e5
      exact Or.inr ⟨v, e, e1, e4, t182_ok T e50 ht hc e5 h6⟩
  unfold fX12_telling_155 pTz
  rw [m_need T (by omega) (by decide)]
  by_cases c1 : ch a = 44
  · have l := ZZ_l Z c1 (by decide)
    have n1 := num (a + 1) 0 (by omega)
    rw [if_pos c1, if_pos c1, bv_s]
    unfold fX12_telling_181
    by_cases c2 : v4 = 98
    · rw [if_pos c2, m_pass T (by omega) (by decide)]
      by_cases c3 : ch (a + 1) = 45
      · have l2 := ZZ_l Z c3 (by decide)
        rw [if_pos c3, if_pos ⟨c2, c3⟩, bd_s, if_neg (by decide)]
        rcases num (a + 2) 1 (by omega) with ⟨f, hF, e1, e2, e3, e4⟩ | ⟨v, e, e1, e2, e3⟩
        · rw [e1]
          exact Or.inl ⟨f, hF, rfl, e2, e3, e4⟩
        · rw [e1]
          rw [if_neg (by decide)] at e3
          exact Or.inr ⟨_, e, rfl, e2, e3⟩
      · rw [if_neg c3, if_neg (fun z => c3 z.2), bd_s, if_pos rfl]
        rcases n1 with ⟨f, hF, e1, e2, e3, e4⟩ | ⟨v, e, e1, e2, e3⟩
        · rw [e1]
          exact Or.inl ⟨f, hF, rfl, e2, e3, e4⟩
        · rw [e1]
          rw [if_pos rfl] at e3
          exact Or.inr ⟨_, e, rfl, e2, e3⟩
    · rw [if_neg c2, if_neg (fun z => c2 z.1)]
      rcases n1 with ⟨f, hF, e1, e2, e3, e4⟩ | ⟨v, e, e1, e2, e3⟩
      · rw [e1]
        exact Or.inl ⟨f, hF, rfl, e2, e3, e4⟩
      · rw [e1]
        rw [if_pos rfl] at e3
        exact Or.inr ⟨_, e, rfl, e2, e3⟩
  · have B := bdM_p (h := h) (x := nI a) ha
    have q := t155_bad (K := K) (v2 := nI c) (v4 := v4) (v5 := nI o) (v6 := v6) B
    unfold fX12_telling_155 at q
    have g3 : gI (pI (pI h 0 29 (nI a)) 0 30 (nI a)) 0 30 = nI a := by rw [gI_pI, if_pos ⟨rfl, rfl⟩]
    rw [b_need B, bv_s, g3] at q
    rw [if_neg c1, if_neg c1, bv_s]
    exact Or.inl ⟨a, _, rfl, ha, q, FMm_b⟩
/-- a term, as the model reads it -/
theorem m_tm {c a n : Nat} (T : TM h ch) (Z : ZZ ch) (hN : N ≤ 15) (e0 : gI h 0 0 = nI N) (e50 : gI h 0 50 = nI t) (ht : t < 6) (hc : c < 16) (ha : a ≤ 60) : (∃ f hF, pTm ch N a = .inl f ∧ f ≤ 60 ∧ fX12_telling_61 (n + 1) (nI c) 1 (pI h 0 29 (nI a)) = some (-1 - nI f, hF) ∧ FMm h hF) ∨ (∃ tm e, pTm ch N a = .inr (tm, e) ∧ e ≤ 60 ∧ fX12_telling_61 (n + 1) (nI c) 1 (pI h 0 29 (nI a)) = bd (fX12_passes 59 (pI (tm4 h (4 * (16 * t + c)) tm) 0 29 (nI e))) (fun r49 h48 => fX12_telling_61 n (nI (c + 1)) r49 h48)) := by
  obtain ⟨x, x1, x2⟩ := T.2 a (by omega)
  have ne : ∀ p : Int32, (0 : Int32) ≤ p ∧ p ≤ 127 → ¬ ch a = p → ¬ x = p := fun p hp e z => e ((sg_eq x1 hp).mp z)
  have g30 : ∀ y f : Int32, gI (pI (pI h 0 29 y) 0 30 f) 0 30 = f := fun y f => by rw [gI_pI, if_pos ⟨rfl, rfl⟩]
  rw [fX12_telling_61, if_neg (by decide), x2, bd_s]
  unfold pTm
  by_cases cs : ch a = 108 ∨ ch a = 118 ∨ ch a = 98
  · have pa : (0 : Int32) ≤ ch a ∧ ch a ≤ 127 := by rcases cs with z | z | z <;> rw [z] <;> decide
    have xa : x = ch a := (sg_eq x1 pa).mpr rfl
    have l := ZZ_l Z rfl pa.1
    have st : ∀ (A B : Option (Int32 × HS)), (if x = (108 : Int32) then A else if x = (118 : Int32) then A else if x = (98 : Int32) then A else B) = A := by
      intro A B
      rw [xa]
      rcases cs with z | z | z <;> rw [z]
      · rw [if_pos rfl]
      · rw [if_neg (by decide), if_pos rfl]
      · rw [if_neg (by decide), if_neg (by decide), if_pos rfl]
    rw [st, if_pos cs, xa]
    unfold fX12_telling_100
    rw [nm_e1, g29, nI_1, pI_pI]
    rcases m_ld T Z (N := N) (a := a + 1) hN e0 (by omega) with ⟨f, e1, e2, y, e3⟩ | ⟨o, e, e1, e2, e3, e4, e5⟩
    · have B := bdM_p (h := h) (x := nI y) e2
      rw [e1, e3, bd_s, t100_bad B, g30]
      exact Or.inl ⟨f, _, rfl, e2, rfl, FMm_b⟩
    · rw [e1, e5, bd_s]
      simp only
      by_cases c1 : ch a = 118
      · rw [if_pos c1, if_pos c1, m_need T (by omega) (by decide)]
        by_cases c2 : ch e = 45
        · have l2 := ZZ_l Z c2 (by decide)
          rw [if_pos c2, if_pos c2, bv_s]
          rcases m_ld T Z (N := N) (a := e + 1) hN e0 (by omega) with ⟨f, w1, w2, y, w3⟩ | ⟨p, e', w1, w2, w3, w4, w5⟩
          · have B := bdM_p (h := h) (x := nI y) w2
            rw [w1, w3, bd_s, b_fault B, bv_s, ite_self, t155_bad B, g30]
            exact Or.inl ⟨f, _, rfl, w2, rfl, FMm_b⟩
          · rw [w1, w5, bd_s]
            simp only
            by_cases c3 : p = o
            · have B := bdM_p (h := h) (x := nI e') (f := e' - 1) (by omega)
              rw [if_pos c3, if_pos (by rw [c3]), g29, show nI e' - 1 = nI (e' - 1) by rw [show (1 : Int32) = nI 1 by decide, pk_sub (by omega)], m_fault T, bv_s, t155_bad B, g30]
              exact Or.inl ⟨e' - 1, _, rfl, by omega, rfl, FMm_b⟩
            · have np : ¬ nI p = nI o := fun z => by rw [nI_eq (by omega) (by omega)] at z; exact c3 z
              rw [if_neg c3, if_neg np]
              exact m_z T Z e50 ht hc (by rw [if_pos c1]) w4
        · have B := bdM_p (h := h) (x := nI e) e4
          rw [if_neg c2, if_neg c2, bv_s, ld_bad B, bd_s, b_fault B, bv_s, ite_self, t155_bad B, g30]
          exact Or.inl ⟨e, _, rfl, e4, rfl, FMm_b⟩
      · rw [if_neg c1, if_neg c1]
        exact m_z (p := 0) T Z e50 ht hc (by rw [if_neg c1]) e4
  · rw [if_neg cs, if_neg (ne _ (by decide) (fun z => cs (Or.inl z))), if_neg (ne _ (by decide) (fun z => cs (Or.inr (Or.inl z)))), if_neg (ne _ (by decide) (fun z => cs (Or.inr (Or.inr z)))), g29, m_fault T, bv_s]
    unfold fX12_telling_100
    rw [nm_e1]
    have B : ∀ v : Int32, bdM (pI (pI (pI h 0 29 (nI a)) 0 30 (nI a)) 0 29 v) := fun v => by
      unfold bdM
      rw [g2930, g30]
      exact fun z => m1_ne (by omega) z.symm
    rw [ld_bad (B _), bd_s, t100_bad (B _), g2930, g30]
    refine Or.inl ⟨a, _, rfl, ha, rfl, fun b j z => ?_⟩
    rw [gI_pI, if_neg (by omega), gI_pI, if_neg (by omega), gI_pI, if_neg (by omega)]
end TLM
