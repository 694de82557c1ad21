section TLD
variable {h : HS} {m X Y : Nat → Int32} {u N t : Nat}
/-- all but the cursor and the rows of a telling -/
def FT (t : Nat) (h h' : HS) : Prop := ∀ b j, ¬ b = 15 → ¬ b = 46 + t → ¬ b = 53 + t → gI h' b j = gI h b j
theorem FT_t {h1 h2 : HS} (a : FT t h h1) (b : FT t h1 h2) : FT t h h2 := fun x j z1 z2 z3 => (b x j z1 z2 z3).trans (a x j z1 z2 z3)
theorem FT_x {h' : HS} (x : exT t h h') : FT t h h' := fun b j _ z2 z3 => x.2 b j z2 z3
theorem FT_p {k : Nat} {v : Int32} : FT t h (pI h 15 k v) := fun b j z _ _ => by rw [gI_pI, if_neg (fun y => z y.1)]
theorem r84_bad {v1 v2 s0 : Int32} (hN : N ≤ 15) (ht : t < 6) (B : bdC 15 h) (e : gI h 2 8 = nI N) (e8 : gI h 8 3 = nI t) : ∃ h', fX9_readTerm_84 v1 v2 s0 h = some h' ∧ exT t h h' := by
  unfold fX9_readTerm_84 fX9_readTerm_116
  have q := fun w => t117_any (h := h) (v1 := v1) (v2 := v2) (v3 := s0) (s0 := w) hN ht (d_num B 3) e e8
  rw [d_exp B (by decide), bv_s, d_take B (by decide), bd_s, if_pos rfl, ite_self]
  exact q 1
theorem oth_bad {r9 : Int32} (B : bdC 15 h) : fX9_readOther r9 h = some (0, h) := by
  unfold fX9_readOther
  rw [d_exp B (by decide), bv_s, d_load B, bd_s, d_fail B, bv_s, ite_self]
/-- a term behind its loads, as the class reads it -/
theorem c_z {v1 v3 : Int32} {o p a : Nat} (hN : N ≤ 15) (ht : t < 6) (hu : u ≤ 60) (hb : ∀ k, (m k).toInt8.toInt32 = m k) (K : KT h m u N t X Y) (ho : o < N) (hv : (v1 = 108 ∧ v3 = -1) ∨ (v1 = 118 ∧ v3 = nI p ∧ p < N) ∨ v1 = 98) (ha : a ≤ 60) : (∃ f hF, pTz (chT m u) v1 o p a = .inl f ∧ f ≤ 60 ∧ fX9_readTerm_84 v1 (nI o) v3 (pI h 15 2 (nI a)) = some hF ∧ gI hF 15 3 = nI f ∧ FT t h hF) ∨ (∃ v e h', pTz (chT m u) v1 o p a = .inr ((v1, o, p, v), e) ∧ a + 2 ≤ e ∧ e ≤ u ∧ fX9_readTerm_84 v1 (nI o) v3 (pI h 15 2 (nI a)) = some h' ∧ gI h' 15 2 = nI e ∧ KT h' m u N t X Y ∧ FT t h h' ∧ ∀ w, w < 3 → gI h' (46 + t) w = gI h (46 + t) w + moT X Y w (v1, o, p, v) ∧ gI h' (53 + t) w = gI h (53 + t) w + hoT X Y w (v1, o, p, v)) := by
  have T := KT_T K hu hb
  have Z : ZZ (chT m u) := chT_Z hu
  have U : ∀ k, u ≤ k → chT m u k = -1 := fun k hk => by unfold chT; rw [if_neg (by omega)]
  generalize chT m u = ch at *
  obtain ⟨k1, k2, k3, k4, k5, k6, k7, k8⟩ := K
  have K : KT h m u N t X Y := ⟨k1, k2, k3, k4, k5, k6, k7, k8⟩
  -- after a fault
  have bad : ∀ (f x : Nat) (r v0 : Int32) (st : HS), f ≤ 60 → fX2_number 15 3 st = some (r, pI (pI h 15 2 (nI x)) 15 3 (nI f)) → ∃ hF, fX9_readTerm_117 v1 (nI o) v3 v0 st = some hF ∧ gI hF 15 3 = nI f ∧ FT t h hF := by
    intro f x r v0 st hf en
    have g : ∀ b j, ¬ b = 15 → gI (pI (pI h 15 2 (nI x)) 15 3 (nI f)) b j = gI h b j := fun b j z => by rw [gI_pI, if_neg (fun y => z y.1), gI_pI, if_neg (fun y => z y.1)]
    obtain ⟨hF, a1, a2⟩ := t117_any (v1 := v1) (v2 := nI o) (v3 := v3) (s0 := v0) hN ht en (by rw [g 2 8 (by decide), k5]) (by rw [g 8 3 (by decide), k6])
    refine ⟨hF, a1, by rw [a2.2 15 3 (by omega) (by omega), gI_pI, if_pos ⟨rfl, rfl⟩], FT_t (FT_t FT_p FT_p) (FT_x a2)⟩
  have good : ∀ (e v : Nat) (v0 : Int32) (st : HS), fX2_number 15 3 st = some (nI v, pI h 15 2 (nI e)) → ∃ h', fX9_readTerm_117 v1 (nI o) v3 v0 st = some h' ∧ gI h' 15 2 = nI e ∧ KT h' m u N t X Y ∧ FT t h h' ∧ ∀ w, w < 3 → gI h' (46 + t) w = gI h (46 + t) w + moT X Y w (v1, o, p, v0 * nI v) ∧ gI h' (53 + t) w = gI h (53 + t) w + hoT X Y w (v1, o, p, v0 * nI v) := by
    intro e v v0 st en
    obtain ⟨h', a1, a2, a3⟩ := t117_ok (s0 := v0) (v3 := v3) (p := p) hN ht en (KT_2 K) ho hv
    refine ⟨h', a1, by rw [a2.2 15 2 (by omega) (by omega), g22], KT_x ht a2 (KT_2 K), FT_t FT_p (FT_x a2), fun w hw => ?_⟩
    obtain ⟨b1, b2⟩ := a3 w hw
    rw [gI_pI, if_neg (by omega)] at b1 b2
    exact ⟨b1, b2⟩
  unfold fX9_readTerm_84 pTz
  rw [c_exp T (by omega) (by decide)]
  by_cases c : ch a = 44
  · have l := ZZ_l Z c (by decide)
    have e3i : (3 : Int32) = nI 3 := by decide
    rw [if_pos c, if_pos c, bv_s]
    unfold fX9_readTerm_116
    -- the number behind
    have num : ∀ (b : Nat) (v0 : Int32) (sg : Int32 → Int32), b ≤ 60 → (∀ v : Nat, v0 * nI v = sg (nI v)) → (∃ f, pNb ch 3 999 b = .inl f ∧ f ≤ 60 ∧ ∃ hF, fX9_readTerm_117 v1 (nI o) v3 v0 (pI h 15 2 (nI b)) = some hF ∧ gI hF 15 3 = nI f ∧ FT t h hF) ∨ (∃ v e, pNb ch 3 999 b = .inr (v, e) ∧ b < e ∧ e ≤ u ∧ ∃ h', fX9_readTerm_117 v1 (nI o) v3 v0 (pI h 15 2 (nI b)) = some h' ∧ gI h' 15 2 = nI e ∧ KT h' m u N t X Y ∧ FT t h h' ∧ ∀ w, w < 3 → gI h' (46 + t) w = gI h (46 + t) w + moT X Y w (v1, o, p, sg (nI v)) ∧ gI h' (53 + t) w = gI h (53 + t) w + hoT X Y w (v1, o, p, sg (nI v))) := by
      intro b v0 sg hb0 hsg
      rcases c_num T Z (D := 3) (M := 999) (a := b) (by omega) (by decide) hb0 with ⟨f, e1, e2, x, e3⟩ | ⟨v, e, e1, e2, e3, e4, e5⟩
      · rw [← e3i] at e3
        exact Or.inl ⟨f, e1, e2, bad f x _ v0 _ e2 e3⟩
      · rw [← e3i] at e5
        have d := (pNb_ne e1).2.2.2.2 (e - 1) (by omega) (by omega)
        have eu : e ≤ u := by
          by_cases z : e ≤ u
          · exact z
          · rw [U (e - 1) (by omega)] at d
            exact absurd d.1 (by decide)
        obtain ⟨h', a1, a2, a3, a4, a5⟩ := good e v v0 _ e5
        rw [hsg v] at a5
        exact Or.inr ⟨v, e, e1, e3, eu, h', a1, a2, a3, a4, a5⟩
    have n1 := num (a + 1) 1 (fun v => v) (by omega) (fun v => Int32.one_mul _)
    by_cases c2 : v1 = 98
    · rw [if_pos c2, c_take T (by omega) (by decide)]
      by_cases c3 : ch (a + 1) = 45
      · have l2 := ZZ_l Z c3 (by decide)
        rw [if_pos c3, if_pos ⟨c2, c3⟩, bd_s, if_neg (by decide)]
        rcases num (a + 2) (-1) (fun v => -v) (by omega) (fun v => by grind) with ⟨f, e1, e2, hF, e3, e4, e5⟩ | ⟨v, e, e1, e2, e3, h', e4, e5, e6, e7, e8⟩
        · rw [e1]
          exact Or.inl ⟨f, hF, rfl, e2, e3, e4, e5⟩
        · rw [e1]
          exact Or.inr ⟨_, e, h', rfl, by omega, e3, e4, e5, e6, e7, e8⟩
      · rw [if_neg c3, if_neg (fun z => c3 z.2), bd_s, if_pos rfl]
        rcases n1 with ⟨f, e1, e2, hF, e3, e4, e5⟩ | ⟨v, e, e1, e2, e3, h', e4, e5, e6, e7, e8⟩
        · rw [e1]
          exact Or.inl ⟨f, hF, rfl, e2, e3, e4, e5⟩
        · rw [e1]
          exact Or.inr ⟨_, e, h', rfl, by omega, e3, e4, e5, e6, e7, e8⟩
    · rw [if_neg c2, if_neg (fun z => c2 z.1)]
      rcases n1 with ⟨f, e1, e2, hF, e3, e4, e5⟩ | ⟨v, e, e1, e2, e3, h', e4, e5, e6, e7, e8⟩
      · rw [e1]
        exact Or.inl ⟨f, hF, rfl, e2, e3, e4, e5⟩
      · rw [e1]
        exact Or.inr ⟨_, e, h', rfl, by omega, e3, e4, e5, e6, e7, e8⟩
  · have B := bdC_p (A := 15) (h := h) (x := nI a) ha
    have g : ∀ b j, ¬ b = 15 → gI (pI (pI h 15 2 (nI a)) 15 3 (nI a)) b j = gI h b j := fun b j z => by rw [gI_pI, if_neg (fun y => z y.1), gI_pI, if_neg (fun y => z y.1)]
    obtain ⟨hF, a1, a2⟩ := r84_bad (v1 := v1) (v2 := nI o) (s0 := v3) hN ht B (by rw [g 2 8 (by decide), k5]) (by rw [g 8 3 (by decide), k6])
    unfold fX9_readTerm_84 at a1
    rw [d_exp B (by decide), bv_s] at a1
    rw [if_neg c, if_neg c, bv_s]
    exact Or.inl ⟨a, hF, rfl, ha, a1, by rw [a2.2 15 3 (by omega) (by omega), gI_pI, if_pos ⟨rfl, rfl⟩], FT_t (FT_t FT_p FT_p) (FT_x a2)⟩
end TLD
