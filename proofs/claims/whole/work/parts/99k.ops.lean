section NOEQ
variable {ch : Nat → Int32}
/-- no sum holds a '=' -/
def NQ (ch : Nat → Int32) (a : Nat) (x : PX) : Prop := ∀ g e, x = .inr (g, e) → a ≤ e ∧ ∀ k, a ≤ k → k < e → ¬ ch k = 61
theorem nq_bad {a f : Nat} : NQ ch a (.inl f) := fun _ _ q => by cases q
theorem nq_i {a e0 : Nat} {v : PEnv → Int32} (h : a ≤ e0) (hk : ∀ k, a ≤ k → k < e0 → ¬ ch k = 61) : NQ ch a (.inr (v, e0)) := fun g e q => by
  have q1 := Sum.inr.inj q
  have q2 : e0 = e := congrArg Prod.snd q1
  rw [← q2]
  exact ⟨h, hk⟩
theorem nq_ret {a : Nat} {v : PEnv → Int32} : NQ ch a (.inr (v, a)) := nq_i (Nat.le_refl _) (fun k h1 h2 => by omega)
theorem nq_one {a : Nat} {v : PEnv → Int32} (h : ¬ ch a = 61) : NQ ch a (.inr (v, a + 1)) := nq_i (by omega) (fun k h1 h2 => by
  rw [show k = a by omega]
  exact h)
theorem nq_step {a : Nat} {x : PX} (h : ¬ ch a = 61) (q : NQ ch (a + 1) x) : NQ ch a x := fun g e w => by
  obtain ⟨q1, q2⟩ := q g e w
  refine ⟨by omega, fun k h1 h2 => ?_⟩
  by_cases z : k = a
  · rw [z]; exact h
  · exact q2 k (by omega) h2
theorem nq_B {a : Nat} {x : PX} {f : (PEnv → Int32) → Nat → PX} (h1 : NQ ch a x) (h2 : ∀ v e, NQ ch e (f v e)) : NQ ch a (pB x f) := by
  intro g e q
  cases x with
  | inl z => cases q
  | inr z =>
    obtain ⟨v, e0⟩ := z
    obtain ⟨u1, u2⟩ := h1 v e0 rfl
    obtain ⟨w1, w2⟩ := h2 v e0 g e q
    refine ⟨by omega, fun k k1 k2 => ?_⟩
    by_cases c : k < e0
    · exact u2 k k1 c
    · exact w2 k (by omega) k2
theorem dg_ne {c : Int32} (d : (48 : Int32) ≤ c ∧ c ≤ 57) : ¬ c = 61 := by rintro rfl; exact absurd d.2 (by decide)
theorem pDg_ne : ∀ (n v a k : Nat), a ≤ k → k < (pDg ch n v a).2 → (48 : Int32) ≤ ch k ∧ ch k ≤ 57
  | 0, v, a, k, h1, h2 => by rw [pDg] at h2; exact absurd h2 (by show ¬ k < a; omega)
  | n + 1, v, a, k, h1, h2 => by
    rw [pDg] at h2
    by_cases c : (48 : Int32) ≤ ch a ∧ ch a ≤ 57
    · rw [if_pos c] at h2
      by_cases z : k = a
      · rw [z]; exact c
      · exact pDg_ne n _ (a + 1) k (by omega) h2
    · rw [if_neg c] at h2
      exact absurd h2 (by show ¬ k < a; omega)
theorem pDg_le : ∀ (n v a : Nat), a ≤ (pDg ch n v a).2
  | 0, v, a => by rw [pDg]; exact Nat.le_refl _
  | n + 1, v, a => by
    rw [pDg]
    by_cases c : (48 : Int32) ≤ ch a ∧ ch a ≤ 57
    · rw [if_pos c]
      exact Nat.le_trans (Nat.le_succ a) (pDg_le n _ (a + 1))
    · rw [if_neg c]; exact Nat.le_refl _
theorem pNb_ne {D M a v e : Nat} (q : pNb ch D M a = .inr (v, e)) : pDg ch D 0 a = (v, e) ∧ v ≤ M ∧ ((48 : Int32) ≤ ch a ∧ ch a ≤ 57) ∧ a ≤ e ∧ ∀ k, a ≤ k → k < e → (48 : Int32) ≤ ch k ∧ ch k ≤ 57 := by
  unfold pNb at q
  by_cases c : (48 : Int32) ≤ ch a ∧ ch a ≤ 57
  · rw [if_pos c] at q
    by_cases c2 : (pDg ch D 0 a).1 ≤ M
    · rw [if_pos c2] at q
      have q1 := Sum.inr.inj q
      have l := pDg_le (ch := ch) D 0 a
      have n := fun k => pDg_ne (ch := ch) D 0 a k
      rw [q1] at c2 l n
      exact ⟨q1, c2, c, l, n⟩
    · rw [if_neg c2] at q; cases q
  · rw [if_neg c] at q; cases q
theorem nq_at {a : Nat} : NQ ch a (pAt ch a) := by
  unfold pAt
  by_cases c : (48 : Int32) ≤ ch a ∧ ch a ≤ 57
  · rw [if_pos c]
    generalize hq : pNb ch 4 9999 a = w
    cases w with
    | inl f => exact nq_bad
    | inr w =>
      obtain ⟨v, e⟩ := w
      obtain ⟨-, -, -, l, n⟩ := pNb_ne hq
      exact nq_i l (fun k k1 k2 => dg_ne (n k k1 k2))
  · rw [if_neg c]
    by_cases c1 : ch a = 110
    · rw [if_pos c1]
      refine nq_step (by rw [c1]; decide) ?_
      generalize hq : pNb ch 2 15 (a + 1) = w
      cases w with
      | inl f => exact nq_bad
      | inr w =>
        obtain ⟨v, e⟩ := w
        obtain ⟨-, -, -, l, n⟩ := pNb_ne hq
        exact nq_i l (fun k k1 k2 => dg_ne (n k k1 k2))
    · rw [if_neg c1]
      by_cases c2 : ch a = 104 ∨ ch a = 109 ∨ ch a = 108 ∨ ch a = 100 ∨ ch a = 119
      · rw [if_pos c2]
        refine nq_one ?_
        rcases c2 with z | z | z | z | z <;> rw [z] <;> decide
      · rw [if_neg c2]; exact nq_bad
theorem nq_lp {th : Nat → PX} (G : ∀ a, NQ ch a (th a)) : ∀ (k : Nat) (v : PEnv → Int32) (a : Nat), NQ ch a (pLp ch th k v a) := by
  intro k
  induction k with
  | zero => intro v a; rw [pLp]; exact nq_bad
  | succ k ih =>
    intro v a
    rw [pLp]
    by_cases c : ch a = 42
    · rw [if_pos c]
      exact nq_step (by rw [c]; decide) (nq_B (G (a + 1)) (fun r e => ih (fun E => v E * r E) e))
    · rw [if_neg c]; exact nq_ret
theorem nq_pr {th : Nat → PX} (G : ∀ a, NQ ch a (th a)) (a : Nat) : NQ ch a (pPr ch th a) := by
  have := nq_B (G a) (fun r e => nq_lp G 70 r e)
  unfold pPr
  exact this
theorem nq_ls {pr : Nat → PX} (G : ∀ a, NQ ch a (pr a)) : ∀ (k : Nat) (v : PEnv → Int32) (a : Nat), NQ ch a (pLs ch pr k v a) := by
  intro k
  induction k with
  | zero => intro v a; rw [pLs]; exact nq_bad
  | succ k ih =>
    intro v a
    rw [pLs]
    by_cases c : ch a = 43
    · rw [if_pos c]
      exact nq_step (by rw [c]; decide) (nq_B (G (a + 1)) (fun r e => ih (fun E => v E + r E) e))
    · rw [if_neg c]
      by_cases c2 : ch a = 45
      · rw [if_pos c2]
        exact nq_step (by rw [c2]; decide) (nq_B (G (a + 1)) (fun r e => ih (fun E => v E - r E) e))
      · rw [if_neg c2]; exact nq_ret
theorem nq_sm {pr : Nat → PX} (G : ∀ a, NQ ch a (pr a)) (a : Nat) : NQ ch a (pSm ch pr a) := by
  have := nq_B (G a) (fun r e => nq_ls G 70 r e)
  unfold pSm
  exact this
theorem nq_th : ∀ (n d a : Nat), NQ ch a (pTh ch n d a) := by
  intro n
  induction n with
  | zero => intro d a; rw [pTh]; exact nq_bad
  | succ n ih =>
    intro d a
    have Q := nq_sm (pr := pPr ch (pTh ch n (d + 1))) (fun b => nq_pr (th := pTh ch n (d + 1)) (ih (d + 1)) b) (a + 1)
    have I := ih d (a + 1)
    rw [pTh]
    by_cases c : ch a = 45
    · rw [if_pos c]
      exact nq_step (by rw [c]; decide) (nq_B I (fun r e => nq_ret))
    · rw [if_neg c]
      by_cases c2 : ch a = 40 ∧ d < 4
      · rw [if_pos c2]
        refine nq_step (by rw [c2.1]; decide) (nq_B Q (fun r e => ?_))
        show NQ ch e (if ch e = 41 then .inr (r, e + 1) else .inl e)
        by_cases c3 : ch e = 41
        · rw [if_pos c3]; exact nq_one (by rw [c3]; decide)
        · rw [if_neg c3]; exact nq_bad
      · rw [if_neg c2]; exact nq_at
end NOEQ
