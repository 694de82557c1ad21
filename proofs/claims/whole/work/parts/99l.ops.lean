section NOEQ2
variable {ch : Nat → Int32}
theorem nq_E (a : Nat) : NQ ch a (pE ch a) := by
  have := nq_sm (pr := pPr ch (pTh ch 70 0)) (fun b => nq_pr (th := pTh ch 70 0) (nq_th 70 0) b) a
  unfold pE
  exact this
/-- of a line: its digits, its '=', and no other '=' -/
theorem pLn_q {a l p e : Nat} (q : pLn ch a = .inr (l, p, e)) : ∃ b, p = b + 1 ∧ ch b = 61 ∧ pDg ch 2 0 a = (l, b) ∧ l ≤ 15 ∧ ((48 : Int32) ≤ ch a ∧ ch a ≤ 57) ∧ (∀ k, a ≤ k → k < b → (48 : Int32) ≤ ch k ∧ ch k ≤ 57) ∧ p ≤ e ∧ (∀ k, p ≤ k → k < e → ¬ ch k = 61) ∧ ∃ g, pE ch p = .inr (g, e) := by
  unfold pLn at q
  generalize w : pNb ch 2 15 a = z at q
  cases z with
  | inl f => cases q
  | inr z =>
    obtain ⟨v, b⟩ := z
    obtain ⟨y1, y2, y3, y4, y5⟩ := pNb_ne w
    replace q : (if ch b = 61 then (match pE ch (b + 1) with
      | .inl f => (.inl f : Sum Nat (Nat × Nat × Nat))
      | .inr w => .inr (v, b + 1, w.2)) else .inl b) = .inr (l, p, e) := q
    by_cases c : ch b = 61
    · rw [if_pos c] at q
      generalize u : pE ch (b + 1) = t at q
      cases t with
      | inl f => cases q
      | inr t =>
        obtain ⟨g, e'⟩ := t
        have q1 := Sum.inr.inj q
        have q2 : v = l := congrArg Prod.fst q1
        have q3 : b + 1 = p := congrArg (fun t => t.2.1) q1
        have q4 : e' = e := congrArg (fun t => t.2.2) q1
        rw [← q2, ← q3, ← q4]
        obtain ⟨n1, n2⟩ := nq_E (b + 1) g e' u
        exact ⟨b, rfl, c, y1, y2, y3, y5, n1, n2, g, u⟩
    · rw [if_neg c] at q; cases q
theorem pDg2 {a : Nat} (d : (48 : Int32) ≤ ch a ∧ ch a ≤ 57) : (((48 : Int32) ≤ ch (a + 1) ∧ ch (a + 1) ≤ 57) ∧ pDg ch 2 0 a = (((ch a).toNatClampNeg - 48) * 10 + ((ch (a + 1)).toNatClampNeg - 48), a + 2)) ∨ (¬ ((48 : Int32) ≤ ch (a + 1) ∧ ch (a + 1) ≤ 57) ∧ pDg ch 2 0 a = ((ch a).toNatClampNeg - 48, a + 1)) := by
  by_cases c : (48 : Int32) ≤ ch (a + 1) ∧ ch (a + 1) ≤ 57
  · refine Or.inl ⟨c, ?_⟩
    rw [pDg, if_pos d, pDg, if_pos c, pDg, Nat.zero_mul, Nat.zero_add]
  · refine Or.inr ⟨c, ?_⟩
    rw [pDg, if_pos d, pDg, if_neg c, Nat.zero_mul, Nat.zero_add]
/-- the lines of a text of signs x in [p, p + k) -/
def ldV (x : Nat → Int32) (p : Nat) : Int32 := (if 2 ≤ p ∧ (48 : Int32) ≤ x (p - 2) ∧ x (p - 2) ≤ 57 then x (p - 2) - 48 else 0) * 10 + x (p - 1) - 48
def mkL (x : Nat → Int32) : Nat → Nat → List (Int32 × Nat)
  | 0, _ => []
  | k + 1, p => if x p = 61 then (ldV x p, p + 1) :: mkL x k (p + 1) else mkL x k (p + 1)
theorem mkL_skip {x : Nat → Int32} : ∀ (j k p : Nat), (∀ i, p ≤ i → i < p + j → ¬ x i = 61) → mkL x (j + k) p = mkL x k (p + j)
  | 0, k, p, _ => by rw [Nat.zero_add, Nat.add_zero]
  | j + 1, k, p, h => by
    rw [show j + 1 + k = (j + k) + 1 by omega, mkL, if_neg (h p (Nat.le_refl _) (by omega)), mkL_skip j k (p + 1) (fun i h1 h2 => h i (by omega) (by omega)), show p + 1 + j = p + (j + 1) by omega]
theorem ldV_line {x : Nat → Int32} {s a l b : Nat} (X : ∀ k, k < s → SC (x k) (ch k)) (hb : b < s) (d : (48 : Int32) ≤ ch a ∧ ch a ≤ 57) (y : pDg ch 2 0 a = (l, b)) (ha : a = 0 ∨ ch (a - 1) = 59) : ldV x b = nI l := by
  obtain ⟨d0, d1, d2, d3⟩ := dg_nat d
  rcases pDg2 d with ⟨c, e⟩ | ⟨c, e⟩
  · rw [y] at e
    have e1 : l = ((ch a).toNatClampNeg - 48) * 10 + ((ch (a + 1)).toNatClampNeg - 48) := congrArg Prod.fst e
    have e2 : b = a + 2 := congrArg Prod.snd e
    obtain ⟨d0', d1', d2', d3'⟩ := dg_nat c
    subst e2
    have xa : x a = nI (48 + d0) := by rw [sc_v (X a (by omega)) d, d2]
    have xb : x (a + 1) = nI (48 + d0') := by rw [sc_v (X (a + 1) (by omega)) c, d2']
    unfold ldV
    rw [Nat.add_sub_cancel, show a + 2 - 1 = a + 1 by omega, if_pos ⟨by omega, (sc_dg (X a (by omega))).mpr d⟩, xa, xb, e1, d3, d3']
    rw [show nI (48 + d0) - 48 = nI d0 by rw [show (48 : Int32) = nI 48 by decide, pk_sub (by omega), show 48 + d0 - 48 = d0 by omega]]
    exact dg_val d0 d0'
  · rw [y] at e
    have e1 : l = (ch a).toNatClampNeg - 48 := congrArg Prod.fst e
    have e2 : b = a + 1 := congrArg Prod.snd e
    subst e2
    have xa : x a = nI (48 + d0) := by rw [sc_v (X a (by omega)) d, d2]
    have nc : ¬ (2 ≤ a + 1 ∧ (48 : Int32) ≤ x (a + 1 - 2) ∧ x (a + 1 - 2) ≤ 57) := by
      rintro ⟨z1, z2⟩
      rcases ha with rfl | ha
      · omega
      · rw [show a + 1 - 2 = a - 1 by omega] at z2
        have := (sc_dg (X (a - 1) (by omega))).mp z2
        rw [ha] at this
        exact absurd this.2 (by decide)
    unfold ldV
    rw [if_neg nc, Nat.add_sub_cancel, xa, e1, d3]
    have := dg_val 0 d0
    rw [Nat.zero_mul, Nat.zero_add, nI_0] at this
    exact this
theorem mk_bk {x : Nat → Int32} {s : Nat} (X : ∀ k, k < s → SC (x k) (ch k)) (O : ∀ k, s ≤ k → ch k = -1) : ∀ (n a : Nat) (L : List (Nat × Nat)) (e : Nat), pBk ch n a = .inr (L, e) → s ≤ e → (a = 0 ∨ ch (a - 1) = 59) → mkL x (s - a) a = L.map (fun q => (nI q.1, q.2)) ∧ (∀ q, q ∈ L → q.1 ≤ 15 ∧ q.2 ≤ s ∧ ∃ g e, pE ch q.2 = .inr (g, e)) ∧ ((48 : Int32) ≤ ch a ∧ ch a ≤ 57) := by
  have lt : ∀ (k : Nat) (c : Int32), ch k = c → ¬ c = -1 → k < s := fun k c h1 h2 => by
    by_cases z : k < s
    · exact z
    · exact absurd (h1.symm.trans (O k (by omega))) h2
  have nx : ∀ k, k < s → ¬ ch k = 61 → ¬ x k = 61 := fun k hk h z => h ((sg_eq (X k hk) (by decide)).mp z)
  intro n
  induction n with
  | zero => intro a L e q; rw [pBk] at q; cases q
  | succ n ih =>
    intro a L e q hs ha
    rw [pBk] at q
    generalize w : pLn ch a = z at q
    cases z with
    | inl f => cases q
    | inr t =>
      obtain ⟨l, p, e1⟩ := t
      obtain ⟨b, rfl, y1, y2, y3, y4, y5, y6, y7, y8⟩ := pLn_q w
      have hb : b < s := lt b 61 y1 (by decide)
      have ab : a ≤ b := by
        have := pDg_le (ch := ch) 2 0 a
        rw [y2] at this
        exact this
      have lv := ldV_line X hb y4 y2 ha
      have k1 : mkL x (s - a) a = (nI l, b + 1) :: mkL x (s - (b + 1)) (b + 1) := by
        rw [show s - a = (b - a) + (s - b) by omega, mkL_skip (b - a) (s - b) a (fun i h1 h2 => nx i (by omega) (dg_ne (y5 i h1 (by omega)))), show a + (b - a) = b by omega, show s - b = (s - (b + 1)) + 1 by omega, mkL, if_pos ((sg_eq (X b hb) (by decide)).mpr y1), lv]
      replace q : (if ch e1 = 59 then (match pBk ch n (e1 + 1) with
        | .inl f => (.inl f : Sum Nat (List (Nat × Nat) × Nat))
        | .inr w => .inr ((l, b + 1) :: w.1, w.2)) else .inr ([(l, b + 1)], e1)) = .inr (L, e) := q
      by_cases c : ch e1 = 59
      · rw [if_pos c] at q
        have he : e1 < s := lt e1 59 c (by decide)
        generalize u : pBk ch n (e1 + 1) = t at q
        cases t with
        | inl f => cases q
        | inr t =>
          obtain ⟨L', e'⟩ := t
          have q1 := Sum.inr.inj q
          have q2 : (l, b + 1) :: L' = L := congrArg Prod.fst q1
          have q3 : e' = e := congrArg Prod.snd q1
          obtain ⟨i1, i2, -⟩ := ih (e1 + 1) L' e' u (by omega) (Or.inr (by rw [Nat.add_sub_cancel]; exact c))
          have k2 : mkL x (s - (b + 1)) (b + 1) = mkL x (s - (e1 + 1)) (e1 + 1) := by
            rw [show s - (b + 1) = (e1 + 1 - (b + 1)) + (s - (e1 + 1)) by omega, mkL_skip (e1 + 1 - (b + 1)) (s - (e1 + 1)) (b + 1) (fun i h1 h2 => nx i (by omega) (by
              by_cases z : i = e1
              · rw [z, c]; decide
              · exact y7 i h1 (by omega))), show b + 1 + (e1 + 1 - (b + 1)) = e1 + 1 by omega]
          rw [← q2]
          refine ⟨by rw [k1, k2, i1, List.map_cons], fun q hq => ?_, y4⟩
          rcases List.mem_cons.mp hq with rfl | hq
          · obtain ⟨g, y8⟩ := y8
            exact ⟨y3, by show b + 1 ≤ s; omega, g, e1, y8⟩
          · exact i2 q hq
      · rw [if_neg c] at q
        have q1 := Sum.inr.inj q
        have q2 : [(l, b + 1)] = L := congrArg Prod.fst q1
        have q3 : e1 = e := congrArg Prod.snd q1
        have k2 : mkL x (s - (b + 1)) (b + 1) = [] := by
          have := mkL_skip (x := x) (s - (b + 1)) 0 (b + 1) (fun i h1 h2 => nx i (by omega) (y7 i h1 (by omega)))
          rw [Nat.add_zero] at this
          rw [this, mkL]
        rw [← q2]
        refine ⟨by rw [k1, k2]; rfl, fun q hq => ?_, y4⟩
        rcases List.mem_cons.mp hq with rfl | hq
        · obtain ⟨g, y8⟩ := y8
          exact ⟨y3, by show b + 1 ≤ s; omega, g, e1, y8⟩
        · cases hq
end NOEQ2
