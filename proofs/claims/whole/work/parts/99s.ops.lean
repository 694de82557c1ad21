section TLE
variable {h : HS} {m X Y : Nat → Int32} {u N t : Nat}
/-- a term, as the class reads it -/
theorem c_tm {a : Nat} (hN : N ≤ 15) (ht : t < 6) (hu : u ≤ 60) (hb : ∀ k, (m k).toInt8.toInt32 = m k) (K : KT h m u N t X Y) (e2 : gI h 15 2 = nI a) (ha : a ≤ 60) : (∃ f hF, pTm (chT m u) N a = .inl f ∧ f ≤ 60 ∧ fX9_readTerm h = some hF ∧ gI hF 15 3 = nI f ∧ FT t h hF) ∨ (∃ tm e h', pTm (chT m u) N a = .inr (tm, e) ∧ a + 4 ≤ e ∧ e ≤ u ∧ tmOK N tm ∧ fX9_readTerm h = some h' ∧ gI h' 15 2 = nI e ∧ KT h' m u N t X Y ∧ FT t h h' ∧ ∀ w, w < 3 → gI h' (46 + t) w = gI h (46 + t) w + moT X Y w tm ∧ gI h' (53 + t) w = gI h (53 + t) w + hoT X Y w tm) := by
  have T := KT_T K hu hb
  have Z : ZZ (chT m u) := chT_Z hu
  have k5 := K.2.2.2.2.1
  have k6 := K.2.2.2.2.2.1
  have sp : pI h 15 2 (nI a) = h := by rw [← e2, pI_self]
  have cz := fun (v1 v3 : Int32) (o p b : Nat) => c_z (h := h) (v1 := v1) (v3 := v3) (o := o) (p := p) (a := b) hN ht hu hb K
  generalize chT m u = ch at *
  have g8 : ∀ v, gI (pI h 15 2 v) 2 8 = nI N := fun v => by rw [gI_pI, if_neg (by decide), k5]
  obtain ⟨x, x1, x2⟩ := T.2 a (by omega)
  rw [sp] at x2
  unfold fX9_readTerm pTm
  rw [x2, bd_s]
  have ne : ∀ p : Int32, (0 : Int32) ≤ p ∧ p ≤ 127 → ¬ ch a = p → ¬ x = p := fun p hp e z => e ((sg_eq x1 hp).mp z)
  -- after a fault
  have bad : ∀ (f y : Nat) (r v1 : Int32) (st : HS), f ≤ 60 → fX2_loadBelow 15 (nI N) st = some (r, pI (pI h 15 2 (nI y)) 15 3 (nI f)) → ∃ hF, bd (fX2_loadBelow 15 (nI N) st) (fun r9 h8 => if v1 = (118 : Int32) then (bd (fX9_readOther r9 h8) (fun r12 h11 => fX9_readTerm_84 v1 r9 r12 h11)) else (fX9_readTerm_84 v1 r9 (-1 : Int32) h8)) = some hF ∧ gI hF 15 3 = nI f ∧ FT t h hF := by
    intro f y r v1 st hf en
    have B := bdC_p (A := 15) (h := h) (x := nI y) hf
    have g : ∀ b j, ¬ b = 15 → gI (pI (pI h 15 2 (nI y)) 15 3 (nI f)) b j = gI h b j := fun b j z => by rw [gI_pI, if_neg (fun y => z y.1), gI_pI, if_neg (fun y => z y.1)]
    have q := fun s => r84_bad (v1 := v1) (v2 := r) (s0 := s) hN ht B (by rw [g 2 8 (by decide), k5]) (by rw [g 8 3 (by decide), k6])
    have fi : ∀ hF, exT t (pI (pI h 15 2 (nI y)) 15 3 (nI f)) hF → gI hF 15 3 = nI f ∧ FT t h hF := fun hF a2 => ⟨by rw [a2.2 15 3 (by omega) (by omega), gI_pI, if_pos ⟨rfl, rfl⟩], FT_t (FT_t FT_p FT_p) (FT_x a2)⟩
    rw [en, bd_s, oth_bad B, bd_s]
    by_cases c : v1 = 118
    · rw [if_pos c]
      obtain ⟨hF, a1, a2⟩ := q 0
      exact ⟨hF, a1, fi hF a2⟩
    · rw [if_neg c]
      obtain ⟨hF, a1, a2⟩ := q (-1)
      exact ⟨hF, a1, fi hF a2⟩
  by_cases cs : ch a = 108 ∨ ch a = 118 ∨ ch a = 98
  · have pa : (0 : Int32) ≤ ch a ∧ ch a ≤ 127 := by rcases cs with z | z | z <;> rw [z] <;> decide
    have xa : x = ch a := (sg_eq x1 pa).mpr rfl
    have l := ZZ_l Z rfl pa.1
    have st : (if x = (108 : Int32) then fX9_readTerm_41 x h else if x = (118 : Int32) then fX9_readTerm_41 x h else if x = (98 : Int32) then fX9_readTerm_41 x h else bv (fX2_fail 15 (gI h 15 2) h) (fun h6 => some h6)) = fX9_readTerm_41 (ch a) h := by
      rw [xa]
      rcases cs with z | z | z <;> rw [z]
      · rw [if_pos rfl]
      · rw [if_neg (by decide), if_pos rfl]
      · rw [if_neg (by decide), if_neg (by decide), if_pos rfl]
    rw [st, if_pos cs]
    unfold fX9_readTerm_41
    rw [nm_e1, e2, nI_1, g8]
    rcases c_ld T Z (N := N) (a := a + 1) hN (by omega) with ⟨f, e1, e2', v, y, e3⟩ | ⟨o, e, e1, e2', e3, e4, e5⟩
    · rw [e1]
      obtain ⟨hF, a1, a2, a3⟩ := bad f y v (ch a) _ e2' e3
      exact Or.inl ⟨f, hF, rfl, e2', a1, a2, a3⟩
    · rw [e1, e5, bd_s]
      simp only
      by_cases c : ch a = 118
      · rw [if_pos c, if_pos c]
        unfold fX9_readOther
        rw [c_exp T (by omega) (by decide)]
        by_cases c2 : ch e = 45
        · have l2 := ZZ_l Z c2 (by decide)
          rw [if_pos c2, if_pos c2, bv_s, g8]
          rcases c_ld T Z (N := N) (a := e + 1) hN (by omega) with ⟨f, w1, w2, v, y, w3⟩ | ⟨p, e', w1, w2, w3, w4, w5⟩
          · have B := bdC_p (A := 15) (h := h) (x := nI y) w2
            have g : ∀ b j, ¬ b = 15 → gI (pI (pI h 15 2 (nI y)) 15 3 (nI f)) b j = gI h b j := fun b j z => by rw [gI_pI, if_neg (fun y => z y.1), gI_pI, if_neg (fun y => z y.1)]
            obtain ⟨hF, a1, a2⟩ := r84_bad (v1 := ch a) (v2 := nI o) (s0 := v) hN ht B (by rw [g 2 8 (by decide), k5]) (by rw [g 8 3 (by decide), k6])
            rw [w1, w3, bd_s, d_fail B, bv_s, ite_self, bd_s]
            exact Or.inl ⟨f, hF, rfl, w2, a1, by rw [a2.2 15 3 (by omega) (by omega), gI_pI, if_pos ⟨rfl, rfl⟩], FT_t (FT_t FT_p FT_p) (FT_x a2)⟩
          · rw [w1, w5, bd_s]
            simp only
            by_cases c3 : p = o
            · have B := bdC_p (A := 15) (h := h) (x := nI e') (f := e' - 1) (by omega)
              have g : ∀ b j, ¬ b = 15 → gI (pI (pI h 15 2 (nI e')) 15 3 (nI (e' - 1))) b j = gI h b j := fun b j z => by rw [gI_pI, if_neg (fun y => z y.1), gI_pI, if_neg (fun y => z y.1)]
              obtain ⟨hF, a1, a2⟩ := r84_bad (v1 := ch a) (v2 := nI o) (s0 := nI p) hN ht B (by rw [g 2 8 (by decide), k5]) (by rw [g 8 3 (by decide), k6])
              rw [if_pos c3, if_pos (by rw [c3]), g22, show nI e' - 1 = nI (e' - 1) by rw [show (1 : Int32) = nI 1 by decide, pk_sub (by omega)], c_fail T, bv_s, bd_s]
              exact Or.inl ⟨e' - 1, hF, rfl, by omega, a1, by rw [a2.2 15 3 (by omega) (by omega), gI_pI, if_pos ⟨rfl, rfl⟩], FT_t (FT_t FT_p FT_p) (FT_x a2)⟩
            · have np : ¬ nI p = nI o := fun z => by rw [nI_eq (by omega) (by omega)] at z; exact c3 z
              rw [if_neg c3, if_neg np, bd_s]
              rcases cz (ch a) (nI p) o p e' e2' (Or.inr (Or.inl ⟨c, rfl, w2⟩)) w4 with ⟨f, hF, y1, y2, y3, y4, y5⟩ | ⟨v, e9, h', y1, y2, y3, y4, y5, y6, y7, y8⟩
              · exact Or.inl ⟨f, hF, y1, y2, y3, y4, y5⟩
              · exact Or.inr ⟨_, e9, h', y1, by omega, y3, ⟨cs, e2', fun _ => ⟨w2, c3⟩⟩, y4, y5, y6, y7, y8⟩
        · have B := bdC_p (A := 15) (h := h) (x := nI e) e4
          have g : ∀ b j, ¬ b = 15 → gI (pI (pI h 15 2 (nI e)) 15 3 (nI e)) b j = gI h b j := fun b j z => by rw [gI_pI, if_neg (fun y => z y.1), gI_pI, if_neg (fun y => z y.1)]
          obtain ⟨hF, a1, a2⟩ := r84_bad (v1 := ch a) (v2 := nI o) (s0 := 0) hN ht B (by rw [g 2 8 (by decide), k5]) (by rw [g 8 3 (by decide), k6])
          rw [if_neg c2, if_neg c2, bv_s, d_load B, bd_s, d_fail B, bv_s, ite_self, bd_s]
          exact Or.inl ⟨e, hF, rfl, e4, a1, by rw [a2.2 15 3 (by omega) (by omega), gI_pI, if_pos ⟨rfl, rfl⟩], FT_t (FT_t FT_p FT_p) (FT_x a2)⟩
      · rw [if_neg c, if_neg c]
        have hv : (ch a = 108 ∧ (-1 : Int32) = -1) ∨ (ch a = 118 ∧ (-1 : Int32) = nI 0 ∧ 0 < N) ∨ ch a = 98 := by
          rcases cs with z | z | z
          · exact Or.inl ⟨z, rfl⟩
          · exact absurd z c
          · exact Or.inr (Or.inr z)
        rcases cz (ch a) (-1) o 0 e e2' hv e4 with ⟨f, hF, y1, y2, y3, y4, y5⟩ | ⟨v, e9, h', y1, y2, y3, y4, y5, y6, y7, y8⟩
        · exact Or.inl ⟨f, hF, y1, y2, y3, y4, y5⟩
        · exact Or.inr ⟨_, e9, h', y1, by omega, y3, ⟨cs, e2', fun z => absurd z c⟩, y4, y5, y6, y7, y8⟩
  · have cf := c_fail T (nI a) (nI a)
    rw [sp] at cf
    rw [if_neg cs, if_neg (ne _ (by decide) (fun z => cs (Or.inl z))), if_neg (ne _ (by decide) (fun z => cs (Or.inr (Or.inl z)))), if_neg (ne _ (by decide) (fun z => cs (Or.inr (Or.inr z)))), e2, cf, bv_s]
    exact Or.inl ⟨a, _, rfl, ha, rfl, by rw [gI_pI, if_pos ⟨rfl, rfl⟩], FT_p⟩
end TLE
