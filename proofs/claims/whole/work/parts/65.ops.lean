section DVE
/-- a sum where one number changes -/
theorem sR_out {f g : Nat → Int32} : ∀ (k a : Nat), (∀ j, a ≤ j → j < a + k → g j = f j) → sR g a k = sR f a k
  | 0, _, _ => rfl
  | k + 1, a, H => by rw [sR, sR, H a (Nat.le_refl a) (by omega), sR_out k (a + 1) (fun j h1 h2 => H j (by omega) (by omega))]
theorem sR_set {f g : Nat → Int32} {i : Nat} (H : ∀ j, ¬ j = i → g j = f j) : ∀ (k a : Nat), a ≤ i → i < a + k → sR g a k = sR f a k + (g i - f i)
  | 0, a, h1, h2 => by omega
  | k + 1, a, h1, h2 => by
    rw [sR, sR]
    by_cases c : i = a
    · subst c
      rw [sR_out k (i + 1) (fun j h3 h4 => H j (by omega))]
      grind
    · rw [H a (fun z => c z.symm), sR_set H k (a + 1) (by omega) (by omega)]
      grind
theorem l15q (q l : Nat) : (15 : Int32) * nI q + nI l = nI (15 * q + l) := by
  rw [show (15 : Int32) = nI 15 by decide, pk_mul, nI_add]
/-- what is tried: put by, and taken back -/
theorem l_push {q : Nat} (hq : q < 4) : ∀ (k l : Nat) (h : HS), l + k = 15 → gI h 0 24 = nI q → ∀ n, k < n → ∃ h', fX12_push_2 n (nI l) h = some h' ∧ gI h' 0 24 = nI (q + 1) ∧ (∀ b j, ¬ b = 11 → ¬ (b = 0 ∧ j = 24) → gI h' b j = gI h b j) ∧ ∀ j, gI h' 11 j = if 15 * q + l ≤ j ∧ j < 15 * q + 15 then gI h 5 (j - 15 * q) else gI h 11 j := by
  intro k
  induction k with
  | zero =>
    intro l h hl e n hn
    obtain ⟨m, rfl⟩ := fuel1 hn
    refine ⟨pI h 0 24 (nI (q + 1)), ?_, by rw [gI_pI, if_pos ⟨rfl, rfl⟩], fun b j _ h2 => by rw [gI_pI, if_neg h2], fun j => by rw [if_neg (by omega), gI_pI, if_neg (by omega)]⟩
    rw [fX12_push_2, if_pos, nm_e1, e, nI_1]
    rw [show (15 : Int32) = nI 15 by decide]
    exact nI_le (by omega) (by omega)
  | succ k ih =>
    intro l h hl e n hn
    obtain ⟨m, rfl⟩ := fuel1 hn
    obtain ⟨h', a1, a2, a3, a4⟩ := ih (l + 1) (pI h 11 (15 * q + l) (gI h 5 l)) (by omega) (by rw [gI_pI, if_neg (by omega)]; exact e) m (by omega)
    refine ⟨h', ?_, a2, fun b j h1 h2 => ?_, fun j => ?_⟩
    · rw [fX12_push_2, if_neg, e, l15q, inb_n (show l < 15 by omega) (by omega), inb_n (show 15 * q + l < 60 by omega) (by omega), ck_t, ck_t, nm_e1, nm_e1, nI_clamp (by omega), nI_clamp (by omega), nI_1]
      · exact a1
      · rw [show (15 : Int32) = nI 15 by decide]
        exact nI_ge (by omega) (by omega)
    · rw [a3 b j h1 h2, gI_pI, if_neg (fun z => h1 z.1)]
    · rw [a4 j]
      by_cases z : j = 15 * q + l
      · subst z
        rw [if_neg (by omega), if_pos (by omega), gI_pI, if_pos ⟨rfl, rfl⟩]
        congr 1
        omega
      · by_cases y : 15 * q + (l + 1) ≤ j ∧ j < 15 * q + 15
        · rw [if_pos y, if_pos (by omega), gI_pI, if_neg (by omega)]
        · rw [if_neg y, if_neg (by omega), gI_pI, if_neg (fun q => z q.2)]
theorem l_pop {q : Nat} (hq : q < 4) : ∀ (k l : Nat) (h : HS), l + k = 15 → gI h 0 24 = nI q → ∀ n, k < n → ∃ h', fX12_pop_12 n (nI l) h = some h' ∧ (∀ b j, ¬ b = 5 → gI h' b j = gI h b j) ∧ ∀ j, gI h' 5 j = if l ≤ j ∧ j < 15 then gI h 11 (15 * q + j) else gI h 5 j := by
  intro k
  induction k with
  | zero =>
    intro l h hl e n hn
    obtain ⟨m, rfl⟩ := fuel1 hn
    refine ⟨h, ?_, fun b j _ => rfl, fun j => by rw [if_neg (by omega)]⟩
    rw [fX12_pop_12, if_pos]
    rw [show (15 : Int32) = nI 15 by decide]
    exact nI_le (by omega) (by omega)
  | succ k ih =>
    intro l h hl e n hn
    obtain ⟨m, rfl⟩ := fuel1 hn
    obtain ⟨h', a1, a3, a4⟩ := ih (l + 1) (pI h 5 l (gI h 11 (15 * q + l))) (by omega) (by rw [gI_pI, if_neg (by omega)]; exact e) m (by omega)
    refine ⟨h', ?_, fun b j h1 => ?_, fun j => ?_⟩
    · rw [fX12_pop_12, if_neg, e, l15q, inb_n (show l < 15 by omega) (by omega), inb_n (show 15 * q + l < 60 by omega) (by omega), ck_t, ck_t, nm_e1, nm_e1, nI_clamp (by omega), nI_clamp (by omega), nI_1]
      · exact a1
      · rw [show (15 : Int32) = nI 15 by decide]
        exact nI_ge (by omega) (by omega)
    · rw [a3 b j h1, gI_pI, if_neg (fun z => h1 z.1)]
    · rw [a4 j]
      by_cases z : j = l
      · subst z
        rw [if_neg (by omega), if_pos (by omega), gI_pI, if_pos ⟨rfl, rfl⟩]
      · by_cases y : l + 1 ≤ j ∧ j < 15
        · rw [if_pos y, if_pos (by omega), gI_pI, if_neg (by omega)]
        · rw [if_neg y, if_neg (by omega), gI_pI, if_neg (fun q => z q.2)]
theorem e_push {h : HS} {q : Nat} (hq : q < 4) (e : gI h 0 24 = nI q) : ∃ h', fX12_push h = some h' ∧ gI h' 0 24 = nI (q + 1) ∧ (∀ b j, ¬ b = 11 → ¬ (b = 0 ∧ j = 24) → gI h' b j = gI h b j) ∧ ∀ j, gI h' 11 j = if 15 * q ≤ j ∧ j < 15 * q + 15 then gI h 5 (j - 15 * q) else gI h 11 j := by
  obtain ⟨h', a1, a2, a3, a4⟩ := l_push hq 15 0 h (by omega) e FU (FU_gt (by omega))
  rw [nI_0] at a1
  exact ⟨h', a1, a2, a3, a4⟩
theorem e_pop {h : HS} {q : Nat} (hq : q < 4) (e : gI h 0 24 = nI (q + 1)) : ∃ h', fX12_pop h = some h' ∧ gI h' 0 24 = nI q ∧ (∀ b j, ¬ b = 5 → ¬ (b = 0 ∧ j = 24) → gI h' b j = gI h b j) ∧ ∀ j, gI h' 5 j = if j < 15 then gI h 11 (15 * q + j) else gI h 5 j := by
  have e0 : gI (pI h 0 24 (nI q)) 0 24 = nI q := by rw [gI_pI, if_pos ⟨rfl, rfl⟩]
  obtain ⟨h', a1, a3, a4⟩ := l_pop hq 15 0 (pI h 0 24 (nI q)) (by omega) e0 FU (FU_gt (by omega))
  rw [nI_0] at a1
  refine ⟨h', ?_, by rw [a3 0 24 (by decide)]; exact e0, fun b j h1 h2 => by rw [a3 b j h1, gI_pI, if_neg h2], fun j => ?_⟩
  · unfold fX12_pop
    rw [nm_e1, e, nI_pred]
    exact a1
  · rw [a4 j]
    by_cases z : j < 15
    · rw [if_pos ⟨by omega, z⟩, if_pos z, gI_pI, if_neg (by omega)]
    · rw [if_neg (fun q => z q.2), if_neg z, gI_pI, if_neg (by omega)]
/-- put by, changed, taken back -/
theorem br_pp {h h1 h2 : HS} {q : Nat} (hq : q < 4) (a4 : ∀ j, gI h1 11 j = if 15 * q ≤ j ∧ j < 15 * q + 15 then gI h 5 (j - 15 * q) else gI h 11 j) (e24 : gI h2 0 24 = nI (q + 1)) (e11 : ∀ j, gI h2 11 j = gI h1 11 j) (e5 : ∀ j, ¬ j < 15 → gI h2 5 j = gI h 5 j) : ∃ h3, fX12_pop h2 = some h3 ∧ gI h3 0 24 = nI q ∧ (∀ j, gI h3 5 j = gI h 5 j) ∧ (∀ j, gI h3 11 j = gI h1 11 j) ∧ (∀ b j, ¬ b = 5 → ¬ (b = 0 ∧ j = 24) → gI h3 b j = gI h2 b j) := by
  obtain ⟨h3, b1, b2, b3, b4⟩ := e_pop hq e24
  refine ⟨h3, b1, b2, fun j => ?_, fun j => by rw [b3 11 j (by decide) (by omega), e11], b3⟩
  rw [b4 j]
  by_cases z : j < 15
  · rw [if_pos z, e11, a4, if_pos (by omega)]
    congr 1
    omega
  · rw [if_neg z, e5 j z]
/-- one second -/
def spd (w : Int32) (lift : Int32 → Int32) (pu t s : Int32) : Int32 := imax (-30) (imin 30 (s + ((w - lift (t / 10)) / 20 + pu)))
def stpT (w : Int32) (lift : Int32 → Int32) (pu t s : Int32) : Int32 := if 0 ≤ t + spd w lift pu t s ∧ t + spd w lift pu t s ≤ 6000 then t + spd w lift pu t s else if 0 ≤ t + spd w lift pu t s then 6000 else 0
def stpS (w : Int32) (lift : Int32 → Int32) (pu t s : Int32) : Int32 := if 0 ≤ t + spd w lift pu t s ∧ t + spd w lift pu t s ≤ 6000 then spd w lift pu t s else 0
theorem e_secC {h : HS} (Y : VYc h) : ∃ h', fX3_goSecond h = some h' ∧ (∀ b j, ¬ (b = 7 ∧ (j = 3 ∨ j = 4)) → gI h' b j = gI h b j) ∧ gI h' 7 3 = stpT (gI h 7 1) (Lc h) (gI h 7 2) (gI h 7 3) (gI h 7 4) ∧ gI h' 7 4 = stpS (gI h 7 1) (Lc h) (gI h 7 2) (gI h 7 3) (gI h 7 4) := by
  unfold fX3_goSecond
  have e1 : ∀ X, gI (pI h 7 4 X) 7 3 = gI h 7 3 := fun X => by rw [gI_pI, if_neg (by decide)]
  have e2 : ∀ X, gI (pI h 7 4 X) 7 4 = X := fun X => by rw [gI_pI, if_pos ⟨rfl, rfl⟩]
  have e3 : ∀ X Y, gI (pI (pI h 7 4 X) 7 3 Y) 7 3 = Y := fun X Y => by rw [gI_pI, if_pos ⟨rfl, rfl⟩]
  have e4 : gI h 7 4 + (gI h 7 1 - Lc h (gI h 7 3 / 10)) / 20 + gI h 7 2 = gI h 7 4 + ((gI h 7 1 - Lc h (gI h 7 3 / 10)) / 20 + gI h 7 2) := Int32.add_assoc _ _ _
  rw [e_liftC Y]
  simp only [bd_s, nm_e1, fX11_clamp, f_between, if10s, e1, e2, e3, e4]
  unfold stpT stpS
  rw [show imax (-30) (imin 30 (gI h 7 4 + ((gI h 7 1 - Lc h (gI h 7 3 / 10)) / 20 + gI h 7 2))) = spd (gI h 7 1) (Lc h) (gI h 7 2) (gI h 7 3) (gI h 7 4) from rfl]
  generalize spd (gI h 7 1) (Lc h) (gI h 7 2) (gI h 7 3) (gI h 7 4) = X
  generalize gI h 7 3 + X = T
  by_cases c : 0 ≤ T ∧ T ≤ 6000
  · simp only [if_pos c]
    refine ⟨_, rfl, fun b j hb => ?_, by rw [e3], ?_⟩
    · rw [gI_pI, if_neg (fun z => hb ⟨z.1, Or.inl z.2⟩), gI_pI, if_neg (fun z => hb ⟨z.1, Or.inr z.2⟩)]
    · rw [gI_pI, if_neg (by decide), e2]
  · simp only [if_neg c]
    refine ⟨_, rfl, fun b j hb => ?_, ?_, by rw [gI_pI, if_pos ⟨rfl, rfl⟩]⟩
    · rw [gI_pI, if_neg (fun z => hb ⟨z.1, Or.inr z.2⟩), gI_pI, if_neg (fun z => hb ⟨z.1, Or.inl z.2⟩), gI_pI, if_neg (fun z => hb ⟨z.1, Or.inl z.2⟩), gI_pI, if_neg (fun z => hb ⟨z.1, Or.inr z.2⟩)]
    · rw [gI_pI, if_neg (by decide), gI_pI, if_pos ⟨rfl, rfl⟩]
      have k6 : (6000 : Int32).toInt = 6000 := by decide +kernel
      apply Int32.toInt_inj.mp
      rw [imax_toInt, imin_toInt, i32_z, k6]
      rw [i32_le, i32_le, i32_z, k6] at c
      by_cases c2 : 0 ≤ T
      · rw [if_pos c2, k6]
        have := i32_le.mp c2
        rw [i32_z] at this
        omega
      · rw [if_neg c2, i32_z]
        have : ¬ (0 : Int32).toInt ≤ T.toInt := fun z => c2 (i32_le.mpr z)
        rw [i32_z] at this
        omega
theorem e_secM {h : HS} (V : VN h) (Y : VY h) : ∃ h', fX12_second h = some h' ∧ (∀ b j, ¬ (b = 0 ∧ (j = 48 ∨ j = 49)) → gI h' b j = gI h b j) ∧ gI h' 0 48 = stpT (Wm h) (Lm h) (Mm h / 2000) (gI h 0 48) (gI h 0 49) ∧ gI h' 0 49 = stpS (Wm h) (Lm h) (Mm h / 2000) (gI h 0 48) (gI h 0 49) := by
  unfold fX12_second fX12_second_94
  have e1 : ∀ X Y, gI (pI (pI h 0 49 X) 0 49 Y) 0 48 = gI h 0 48 := fun X Y => by rw [gI_pI, if_neg (by decide), gI_pI, if_neg (by decide)]
  have e2 : ∀ X Y, gI (pI (pI h 0 49 X) 0 49 Y) 0 49 = Y := fun X Y => by rw [gI_pI, if_pos ⟨rfl, rfl⟩]
  have e0 : ∀ X, gI (pI h 0 49 X) 0 49 = X := fun X => by rw [gI_pI, if_pos ⟨rfl, rfl⟩]
  have e3 : ∀ X Y Z, gI (pI (pI (pI h 0 49 X) 0 49 Y) 0 48 Z) 0 48 = Z := fun X Y Z => by rw [gI_pI, if_pos ⟨rfl, rfl⟩]
  rw [e_heavyM V Y, bd_s, e_momM0 V, bd_s]
  simp only [nm_e1, f_in, bd_s, if10s, e0, e1, e2, e3]
  unfold stpT stpS
  rw [show imax (-30) (imin 30 (gI h 0 49 + (Hm h (gI h 0 48 / 10) / 20 + Mm h / 2000))) = spd (Wm h) (Lm h) (Mm h / 2000) (gI h 0 48) (gI h 0 49) from rfl]
  generalize spd (Wm h) (Lm h) (Mm h / 2000) (gI h 0 48) (gI h 0 49) = X
  generalize gI h 0 49 + (Hm h (gI h 0 48 / 10) / 20 + Mm h / 2000) = X0
  generalize gI h 0 48 + X = T
  have sm : ∀ b j, ¬ (b = 0 ∧ (j = 48 ∨ j = 49)) → gI (pI (pI (pI h 0 49 X0) 0 49 X) 0 48 T) b j = gI h b j := fun b j hb => by
    rw [gI_pI, if_neg (fun z => hb ⟨z.1, Or.inl z.2⟩), gI_pI, if_neg (fun z => hb ⟨z.1, Or.inr z.2⟩), gI_pI, if_neg (fun z => hb ⟨z.1, Or.inr z.2⟩)]
  have sm2 : ∀ Z b j, ¬ (b = 0 ∧ (j = 48 ∨ j = 49)) → gI (pI (pI (pI (pI (pI h 0 49 X0) 0 49 X) 0 48 T) 0 48 Z) 0 49 0) b j = gI h b j := fun Z b j hb => by
    rw [gI_pI, if_neg (fun z => hb ⟨z.1, Or.inr z.2⟩), gI_pI, if_neg (fun z => hb ⟨z.1, Or.inl z.2⟩)]
    exact sm b j hb
  by_cases c : 0 ≤ T ∧ T ≤ 6000
  · simp only [if_pos c]
    refine ⟨_, rfl, sm, by rw [e3], ?_⟩
    rw [gI_pI, if_neg (by decide), e2]
  · simp only [if_neg c]
    by_cases c2 : 0 ≤ T
    · simp only [if_pos c2]
      refine ⟨_, rfl, sm2 _, ?_, by rw [gI_pI, if_pos ⟨rfl, rfl⟩]⟩
      rw [gI_pI, if_neg (by decide), gI_pI, if_pos ⟨rfl, rfl⟩]
    · simp only [if_neg c2]
      refine ⟨_, rfl, sm2 _, ?_, by rw [gI_pI, if_pos ⟨rfl, rfl⟩]⟩
      rw [gI_pI, if_neg (by decide), gI_pI, if_pos ⟨rfl, rfl⟩]
/-- what a boat is by, the same -/
theorem sm_M {h h' : HS} (e0 : gI h' 0 0 = gI h 0 0) (e6 : gI h' 0 6 = gI h 0 6) (e7 : gI h' 0 7 = gI h 0 7) (e8 : gI h' 0 8 = gI h 0 8) (e9 : gI h' 0 9 = gI h 0 9) (e10 : gI h' 0 10 = gI h 0 10) (e11 : gI h' 0 11 = gI h 0 11) (f1 : ∀ j, gI h' 2 j = gI h 2 j) (f2 : ∀ j, gI h' 3 j = gI h 3 j) (f4 : ∀ j, gI h' 6 j = gI h 6 j) (f5 : ∀ j, gI h' 7 j = gI h 7 j) : nLd h' = nLd h ∧ (VN h → VN h') ∧ (VY h → VY h') ∧ (∀ d, Lm h' d = Lm h d) ∧ (∀ d, Dm h' d = Dm h d) ∧ ((∀ j, gI h' 5 j = gI h 5 j) → Wm h' = Wm h ∧ Mm h' = Mm h ∧ Tm h' = Tm h) := by
  have en : nLd h' = nLd h := by show (gI h' 0 0).toNatClampNeg = (gI h 0 0).toNatClampNeg; rw [e0]
  have ey : nLy h' = nLy h := by show (gI h' 0 11).toNatClampNeg = (gI h 0 11).toNatClampNeg; rw [e11]
  have g6 : gI h' 6 = gI h 6 := funext f4
  have g7 : gI h' 7 = gI h 7 := funext f5
  refine ⟨en, fun v => by unfold VN at *; rw [e0]; exact v, fun v => by unfold VY at *; rw [e11, g6]; exact v, fun d => ?_, fun d => ?_, fun f => ⟨?_, ?_, ?_⟩⟩
  · unfold Lm; rw [e9, e10, g6, g7, ey]
  · unfold Dm; rw [g6, g7, ey]
  · unfold Wm; rw [e6, en, show gI h' 5 = gI h 5 from funext f]
  · unfold Mm; rw [e7, en, show gI h' 5 = gI h 5 from funext f, show gI h' 2 = gI h 2 from funext f1]
  · unfold Tm; rw [e8, en, show gI h' 5 = gI h 5 from funext f, show gI h' 3 = gI h 3 from funext f2]
theorem sm48 {h h' : HS} (s : ∀ b j, ¬ (b = 0 ∧ (j = 48 ∨ j = 49)) → gI h' b j = gI h b j) : nLd h' = nLd h ∧ (VN h → VN h') ∧ (VY h → VY h') ∧ (∀ d, Lm h' d = Lm h d) ∧ Wm h' = Wm h ∧ Mm h' = Mm h := by
  obtain ⟨a1, a2, a3, a4, -, a5⟩ := sm_M (h := h) (h' := h') (s _ _ (by decide)) (s _ _ (by decide)) (s _ _ (by decide)) (s _ _ (by decide)) (s _ _ (by decide)) (s _ _ (by decide)) (s _ _ (by decide)) (fun j => s _ _ (by omega)) (fun j => s _ _ (by omega)) (fun j => s _ _ (by omega)) (fun j => s _ _ (by omega))
  have a6 := a5 (fun j => s _ _ (by omega))
  exact ⟨a1, a2, a3, a4, a6.1, a6.2.1⟩
theorem sm73 {h h' : HS} (s : ∀ b j, ¬ (b = 7 ∧ (j = 3 ∨ j = 4)) → gI h' b j = gI h b j) : (VYc h → VYc h') ∧ (∀ d, Lc h' d = Lc h d) ∧ gI h' 7 1 = gI h 7 1 ∧ gI h' 7 2 = gI h 7 2 := by
  have ey : nYc h' = nYc h := by show (gI h' 3 2).toNatClampNeg = (gI h 3 2).toNatClampNeg; rw [s 3 2 (by decide)]
  have g6 : gI h' 33 = gI h 33 := funext fun j => s _ _ (by omega)
  have g7 : gI h' 34 = gI h 34 := funext fun j => s _ _ (by omega)
  refine ⟨fun v => by unfold VYc at *; rw [ey, g6, s 3 2 (by decide)]; exact v, fun d => ?_, s 7 1 (by decide), s 7 2 (by decide)⟩
  unfold Lc
  rw [ey, g6, g7, s 3 3 (by decide), s 3 4 (by decide)]
end DVE
