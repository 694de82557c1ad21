section RUN
variable {hc hm : HS}
/-- the model's run, where it can -/
theorem e_runsI (I : IL hm) {p : Nat} (hp : p < 6) (ha : endP hm (gI hm 17 p)) (hb : endP hm (gI hm 18 p)) (hne : ¬ gI hm 17 p = gI hm 18 p) (hr : 1 ≤ (gI hm 19 p).toInt ∧ (gI hm 19 p).toInt ≤ 50) {n : Int32} (hn : -99 ≤ n.toInt ∧ n.toInt ≤ 99) (hn0 : ¬ n = 0) :
    (canP hm p n → ∃ hm', fX12_runs (nI p) n hm = some (iabs n * gI hm 19 p, hm') ∧ (∀ b j, ¬ b = 5 → gI hm' b j = gI hm b j) ∧ (∀ k, gI hm' 5 k = mvH (gI hm 5) (gI hm 17 p) (gI hm 18 p) (pMu hm p n) k) ∧ (∀ b j, gR hm' b j = gR hm b j)) ∧ (¬ canP hm p n → fX12_runs (nI p) n hm = some (-2, hm)) := by
  have hnn := (VN_n I.1).1
  have m := pMu_rng (hm := hm) hr hn
  have ng := neg_rng (x := pMu hm p n) (by omega)
  -- from, to, many as the model has them
  have core : ∀ (a b mu : Int32), endP hm a → endP hm b → ¬ a = b → -5000 ≤ mu.toInt → mu.toInt ≤ 5000 → 0 ≤ mu.toInt → (tkE hm a (-mu) ∧ tkE hm b mu → ∃ hm', (if a = -1 then fX12_runs_70 a b mu hm else ck (inb a 15) (if gI hm 5 a.toNatClampNeg < mu then some (-2, hm) else fX12_runs_70 a b mu hm)) = some (mu, hm') ∧ (∀ b j, ¬ b = 5 → gI hm' b j = gI hm b j) ∧ (∀ k, gI hm' 5 k = mvH (gI hm 5) a b mu k) ∧ (∀ b j, gR hm' b j = gR hm b j)) ∧ (¬ (tkE hm a (-mu) ∧ tkE hm b mu) → (if a = -1 then fX12_runs_70 a b mu hm else ck (inb a 15) (if gI hm 5 a.toNatClampNeg < mu then some (-2, hm) else fX12_runs_70 a b mu hm)) = some (-2, hm)) := by
    intro a b mu ea eb hab r1 r2 r0
    have ngm := neg_rng (x := mu) ⟨r1, r2⟩
    have tm1 : ∀ mu : Int32, tkE hm (-1) mu := fun mu i hi e => absurd e (m1_ne (by omega))
    have tn : ∀ (i : Nat) (mu : Int32), i < nLd hm → (tkE hm (nI i) mu ↔ 0 ≤ (gI hm 5 i).toInt + mu.toInt ∧ (gI hm 5 i).toInt + mu.toInt ≤ (gI hm 4 i).toInt) := fun i mu hi => ⟨fun h => h i hi rfl, fun h j hj e => by
      have := (nI_eq (by omega) (by omega)).mp e
      subst this
      exact h⟩
    have n1 : ∀ i, i < nLd hm → ¬ nI i = (-1 : Int32) := fun i hi e => m1_ne (by omega) e.symm
    -- the second half: b
    have second : ∀ (h1 : HS), fX12_runs_106 b mu h1 = some (mu, if b = -1 then h1 else pI h1 5 b.toNatClampNeg (gI h1 5 b.toNatClampNeg + mu)) := by
      intro h1
      unfold fX12_runs_106
      rcases eb with rfl | ⟨j, hj, rfl, -⟩
      · rw [if_pos rfl, if_pos rfl]
      · rw [if_neg (n1 j hj), if_neg (n1 j hj)]
        simp only [inb_n (show j < 15 by omega) (by omega), ck_t, nm_e1]
    have room : ¬ b = -1 → fX12_roomOf b hm = some (gI hm 4 b.toNatClampNeg - gI hm 5 b.toNatClampNeg, hm) := by
      intro hb1
      rcases eb with rfl | ⟨j, hj, rfl, -⟩
      · exact absurd rfl hb1
      · unfold fX12_roomOf
        simp only [inb_n (show j < 15 by omega) (by omega), ck_t]
    rcases ea with rfl | ⟨i, hi, rfl, -⟩
    · rw [if_pos rfl]
      rcases eb with rfl | ⟨j, hj, rfl, -⟩
      · exact absurd rfl hab
      · unfold fX12_runs_70 fX12_runs_90
        rw [if_neg (n1 j hj), room (n1 j hj), bd_s, if_pos rfl, second, if_neg (n1 j hj), nI_clamp (by omega)]
        obtain ⟨-, -, -, x1, x2, x3⟩ := I.2 j hj
        have e1 : (gI hm 4 j - gI hm 5 j).toInt = (gI hm 4 j).toInt - (gI hm 5 j).toInt := fb_subI9 (by omega) (by omega)
        refine ⟨fun c => ?_, fun c => ?_⟩
        · have c2 := (tn j mu hj).mp c.2
          rw [if_pos (i32_le.mpr (by omega))]
          refine ⟨_, rfl, fun b k hbk => by rw [gI_pI, if_neg (fun z => hbk z.1)], fun k => ?_, fun _ _ => rfl⟩
          unfold mvH
          rw [if_neg m1_k, gI_pI]
          by_cases z : k = j
          · subst z
            rw [if_pos ⟨rfl, rfl⟩, if_pos (nI_toInt (by omega))]
          · rw [if_neg (fun y => z y.2), if_neg (fun y => z ((nI_k (by omega)).mp y).symm)]
        · rw [if_neg]
          intro q
          refine c ⟨tm1 _, (tn j mu hj).mpr ?_⟩
          have := i32_le.mp q
          omega
    · rw [if_neg (n1 i hi)]
      simp only [inb_n (show i < 15 by omega) (by omega), ck_t, nI_clamp (show i < 2 ^ 31 by omega)]
      obtain ⟨-, -, -, x1, x2, x3⟩ := I.2 i hi
      by_cases c1 : gI hm 5 i < mu
      · rw [if_pos c1]
        have c1' := i32_lt.mp c1
        exact ⟨fun c => absurd ((tn i (-mu) hi).mp c.1) (by omega), fun _ => rfl⟩
      · rw [if_neg c1]
        have c1' : ¬ (gI hm 5 i).toInt < mu.toInt := fun z => c1 (i32_lt.mpr z)
        have ta : tkE hm (nI i) (-mu) := (tn i (-mu) hi).mpr (by omega)
        unfold fX12_runs_70 fX12_runs_90
        rcases eb with rfl | ⟨j, hj, rfl, -⟩
        · rw [if_pos rfl, if_neg (n1 i hi)]
          simp only [inb_n (show i < 15 by omega) (by omega), ck_t, nm_e1, nI_clamp (show i < 2 ^ 31 by omega), second, if_true]
          refine ⟨fun _ => ⟨_, rfl, fun b k hbk => by rw [gI_pI, if_neg (fun z => hbk z.1)], fun k => ?_, fun _ _ => rfl⟩, fun c => absurd ⟨ta, tm1 mu⟩ c⟩
          unfold mvH
          rw [gI_pI]
          by_cases z : k = i
          · subst z
            rw [if_pos ⟨rfl, rfl⟩, if_pos (nI_toInt (by omega))]
          · rw [if_neg (fun y => z y.2), if_neg (fun y => z ((nI_k (by omega)).mp y).symm), if_neg m1_k]
        · have hij : ¬ j = i := fun z => hab (by rw [z])
          obtain ⟨-, -, -, y1, y2, y3⟩ := I.2 j hj
          have e1 : (gI hm 4 j - gI hm 5 j).toInt = (gI hm 4 j).toInt - (gI hm 5 j).toInt := fb_subI9 (by omega) (by omega)
          rw [if_neg (n1 j hj), room (n1 j hj), bd_s, if_neg (n1 i hi)]
          simp only [inb_n (show i < 15 by omega) (by omega), ck_t, nm_e1, nI_clamp (show i < 2 ^ 31 by omega), nI_clamp (show j < 2 ^ 31 by omega), second, if_neg (n1 j hj)]
          rw [show gI (pI hm 5 i (gI hm 5 i - mu)) 5 j = gI hm 5 j by rw [gI_pI, if_neg (fun z => hij z.2)]]
          refine ⟨fun c => ?_, fun c => ?_⟩
          · have c2 := (tn j mu hj).mp c.2
            rw [if_pos (i32_le.mpr (by omega))]
            refine ⟨_, rfl, fun b k hbk => by rw [gI_pI, if_neg (fun z => hbk z.1), gI_pI, if_neg (fun z => hbk z.1)], fun k => ?_, fun _ _ => rfl⟩
            unfold mvH
            rw [gI_pI, gI_pI]
            by_cases z1 : k = i
            · subst z1
              rw [if_neg (fun z => hij z.2.symm), if_pos ⟨rfl, rfl⟩, if_pos ((nI_k (by omega)).mpr rfl)]
            · rw [if_neg (fun z => z1 ((nI_k (by omega)).mp z).symm)]
              by_cases z2 : k = j
              · subst z2
                rw [if_pos ⟨rfl, rfl⟩, if_pos ((nI_k (by omega)).mpr rfl)]
              · rw [if_neg (fun z => z2 z.2), if_neg (fun z => z1 z.2), if_neg (fun z => z2 ((nI_k (by omega)).mp z).symm)]
          · rw [if_neg]
            intro q
            refine c ⟨ta, (tn j mu hj).mpr ?_⟩
            have := i32_le.mp q
            omega
  unfold fX12_runs fX12_runs_19 fX12_runs_39
  by_cases c0 : n ≤ 0
  · have hn1 : n.toInt < 0 := by
      have := i32_le.mp c0
      have z : ¬ n.toInt = 0 := fun e => hn0 (Int32.toInt_inj.mp e)
      have z2 : (0 : Int32).toInt = 0 := rfl
      omega
    have e1 : iabs n * gI hm 19 p = -pMu hm p n := by
      rw [iabs_neg (fun z => by have := i32_le.mp z; have z2 : (0 : Int32).toInt = 0 := rfl; omega)]
      unfold pMu
      rw [Int32.neg_mul]
    have s1 : (pMu hm p n).toInt ≤ 0 := by
      rw [m.1]
      exact Int.mul_nonpos_of_nonpos_of_nonneg (by omega) (by omega)
    simp only [if_pos c0, inb_n hp (by omega), ck_t, nm_e1, nI_clamp (show p < 2 ^ 31 by omega), e1]
    have K := core (gI hm 18 p) (gI hm 17 p) (-pMu hm p n) hb ha (fun e => hne e.symm) (by omega) (by omega) (by omega)
    rw [Int32.neg_neg] at K
    refine ⟨fun c => ?_, fun c => K.2 (fun q => c ⟨q.2, q.1⟩)⟩
    obtain ⟨hm', a1, a2, a3, a4⟩ := K.1 ⟨c.2, c.1⟩
    refine ⟨hm', a1, a2, fun k => ?_, a4⟩
    rw [a3 k]
    unfold mvH
    by_cases z1 : (gI hm 17 p).toInt = (k : Int)
    · have z2 : ¬ (gI hm 18 p).toInt = (k : Int) := fun e => hne (Int32.toInt_inj.mp (z1.trans e.symm))
      rw [if_neg z2, if_pos z1, if_pos z1, Int32.sub_eq_add_neg]
    · by_cases z2 : (gI hm 18 p).toInt = (k : Int)
      · simp only [if_pos z2, if_neg z1, Int32.sub_eq_add_neg, Int32.neg_neg]
      · simp only [if_neg z2, if_neg z1]
  · have hn1 : 0 < n.toInt := by
      have z2 : (0 : Int32).toInt = 0 := rfl
      have : ¬ n.toInt ≤ (0 : Int32).toInt := fun q => c0 (i32_le.mpr q)
      omega
    have e1 : iabs n * gI hm 19 p = pMu hm p n := by
      rw [iabs_pos (i32_le.mpr (by have z2 : (0 : Int32).toInt = 0 := rfl; omega))]
      rfl
    have s1 : 0 ≤ (pMu hm p n).toInt := by
      rw [m.1]
      exact Int.mul_nonneg (by omega) (by omega)
    simp only [if_neg c0, inb_n hp (by omega), ck_t, nm_e1, nI_clamp (show p < 2 ^ 31 by omega), e1]
    exact core (gI hm 17 p) (gI hm 18 p) (pMu hm p n) ha hb hne (by omega) (by omega) s1
/-- what a run changes -/
def gW (a b : Int32) : Int32 := (if b = -1 then 0 else 1) - (if a = -1 then 0 else 1)
def gX (x : Nat → Int32) (a b : Int32) : Int32 := (if b = -1 then 0 else x b.toNatClampNeg) - (if a = -1 then 0 else x a.toNatClampNeg)
theorem mv_M {f x : Nat → Int32} {c a b mu : Int32} (ha : endP hm a) (hb : endP hm b) (hab : ¬ a = b) (h15 : nLd hm ≤ 15) : mV c x (mvH f a b mu) (nLd hm) = mV c x f (nLd hm) + mu * gX x a b := by
  have n1 : ∀ i, i < nLd hm → ¬ nI i = (-1 : Int32) := fun i hi e => m1_ne (by omega) e.symm
  unfold gX
  rcases ha with rfl | ⟨i, hi, rfl, -⟩
  · rcases hb with rfl | ⟨j, hj, rfl, -⟩
    · exact absurd rfl hab
    · rw [if_neg (n1 j hj), if_pos rfl, nI_clamp (by omega)]
      rw [mV_set (f := f) (g := mvH f (-1) (nI j) mu) (i := j) (fun l hl => by unfold mvH; rw [if_neg m1_k, if_neg (fun z => hl ((nI_k (by omega)).mp z).symm)]) hj]
      rw [show mvH f (-1) (nI j) mu j = f j + mu by unfold mvH; rw [if_neg m1_k, if_pos ((nI_k (by omega)).mpr rfl)]]
      grind
  · rw [if_neg (n1 i hi), nI_clamp (by omega)]
    rcases hb with rfl | ⟨j, hj, rfl, -⟩
    · rw [if_pos rfl]
      rw [mV_set (f := f) (g := mvH f (nI i) (-1) mu) (i := i) (fun l hl => by unfold mvH; rw [if_neg (fun z => hl ((nI_k (by omega)).mp z).symm), if_neg m1_k]) hi]
      rw [show mvH f (nI i) (-1) mu i = f i - mu by unfold mvH; rw [if_pos ((nI_k (by omega)).mpr rfl)]]
      grind
    · have hij : ¬ j = i := fun z => hab (by rw [z])
      rw [if_neg (n1 j hj), nI_clamp (by omega)]
      have g1 : ∀ l, ¬ l = j → mvH f (nI i) (nI j) mu l = (fun l => if l = i then f l - mu else f l) l := fun l hl => by
        unfold mvH
        by_cases z : l = i
        · subst z
          show _ = if l = l then f l - mu else f l
          rw [if_pos ((nI_k (by omega)).mpr rfl), if_pos rfl]
        · show _ = if l = i then f l - mu else f l
          rw [if_neg (fun y => z ((nI_k (by omega)).mp y).symm), if_neg (fun y => hl ((nI_k (by omega)).mp y).symm), if_neg z]
      rw [mV_set (f := fun l => if l = i then f l - mu else f l) (g := mvH f (nI i) (nI j) mu) (i := j) g1 hj, mV_set (f := f) (g := fun l => if l = i then f l - mu else f l) (i := i) (fun l hl => by show (if l = i then f l - mu else f l) = f l; rw [if_neg hl]) hi]
      have q1 : mvH f (nI i) (nI j) mu j = f j + mu := by unfold mvH; rw [if_neg (fun y => hij ((nI_k (by omega)).mp y).symm), if_pos ((nI_k (by omega)).mpr rfl)]
      rw [q1]
      show mV c x f (nLd hm) + x i * ((if i = i then f i - mu else f i) - f i) + x j * (f j + mu - (if j = i then f j - mu else f j)) = _
      rw [if_pos rfl, if_neg hij]
      grind
theorem wV_m (c : Int32) (f : Nat → Int32) (n : Nat) : wV c f n = mV c (fun _ => 1) f n := by
  unfold wV mV
  congr 1
  have : (fun i => (1 : Int32) * f i) = f := funext fun i => Int32.one_mul (f i)
  rw [this]
theorem gX_1 (a b : Int32) : gX (fun _ => 1) a b = gW a b := rfl
/-- what a boat is behind a run -/
theorem run_M {h h' : HS} {a b mu : Int32} (h15 : nLd h ≤ 15) (ha : endP h a) (hb : endP h b) (hab : ¬ a = b) (s : ∀ b j, ¬ b = 5 → ¬ b = 11 → ¬ (b = 0 ∧ j = 24) → gI h' b j = gI h b j) (s5 : ∀ k, gI h' 5 k = mvH (gI h 5) a b mu k) : nLd h' = nLd h ∧ (VN h → VN h') ∧ (VY h → VY h') ∧ (∀ d, Lm h' d = Lm h d) ∧ Wm h' = Wm h + mu * gW a b ∧ Mm h' = Mm h + mu * gX (gI h 2) a b ∧ Tm h' = Tm h + mu * gX (gI h 3) a b ∧ (∀ d, Hm h' d = Hm h d + mu * gW a b) := by
  obtain ⟨a1, a2, a3, a4, -, -⟩ := sm_M (h := h) (h' := h') (s _ _ (by decide) (by decide) (by decide)) (s _ _ (by decide) (by decide) (by decide)) (s _ _ (by decide) (by decide) (by decide)) (s _ _ (by decide) (by decide) (by decide)) (s _ _ (by decide) (by decide) (by decide)) (s _ _ (by decide) (by decide) (by decide)) (s _ _ (by decide) (by decide) (by decide)) (fun j => s _ _ (by omega) (by omega) (by omega)) (fun j => s _ _ (by omega) (by omega) (by omega)) (fun j => s _ _ (by omega) (by omega) (by omega)) (fun j => s _ _ (by omega) (by omega) (by omega))
  have f5 : gI h' 5 = mvH (gI h 5) a b mu := funext s5
  have f2 : gI h' 2 = gI h 2 := funext fun j => s _ _ (by omega) (by omega) (by omega)
  have f3 : gI h' 3 = gI h 3 := funext fun j => s _ _ (by omega) (by omega) (by omega)
  have eW : Wm h' = Wm h + mu * gW a b := by
    unfold Wm
    rw [a1, f5, s 0 6 (by decide) (by decide) (by decide), wV_m, wV_m, mv_M ha hb hab h15, gX_1]
  refine ⟨a1, a2, a3, a4, eW, ?_, ?_, fun d => ?_⟩
  · unfold Mm
    rw [a1, f5, f2, s 0 7 (by decide) (by decide) (by decide), mv_M ha hb hab h15]
  · unfold Tm
    rw [a1, f5, f3, s 0 8 (by decide) (by decide) (by decide), mv_M ha hb hab h15]
  · unfold Hm
    rw [eW, a4]
    grind
theorem e_gains (H : RR hc hm) {p : Nat} (hp : p < 6) (ha : endP hm (gI hm 17 p)) (hb : endP hm (gI hm 18 p)) : fX5_weightGain (nI p) hc = some (gW (gI hm 17 p) (gI hm 18 p), hc) ∧ fX5_momentGain (nI p) hc = some (gX (gI hm 2) (gI hm 17 p) (gI hm 18 p), hc) ∧ fX5_listGain (nI p) hc = some (gX (gI hm 3) (gI hm 17 p) (gI hm 18 p), hc) := by
  have hnn := RR_15 H
  obtain ⟨p1, p2, p3, p4, p5⟩ := H.1.2.2.2.2.2.1
  have l3 := H.1.1.2.2.1
  have l4 := H.1.1.2.2.2.1
  have n1 : ∀ i, i < nLd hm → ¬ nI i = (-1 : Int32) := fun i hi e => m1_ne (by omega) e.symm
  have th : ∀ e : Int32, endP hm e → fX4_there e hc = some (if e = -1 then 0 else 1, hc) := by
    intro e he
    rw [f_thereC (by omega) (RR_eC H)]
    rcases he with rfl | ⟨i, hi, rfl, -⟩
    · rw [if_neg (fun z => by obtain ⟨i, hi, e⟩ := z; exact m1_ne (by omega) e), if_pos rfl]
    · rw [if_pos ⟨i, hi, rfl⟩, if_neg (n1 i hi)]
  have inb15 : ∀ e : Int32, endP hm e → ¬ e = -1 → inb e 15 = true := by
    intro e he hne
    rcases he with rfl | ⟨i, hi, rfl, -⟩
    · exact absurd rfl hne
    · exact inb_n (by omega) (by omega)
  unfold fX5_weightGain fX5_momentGain fX5_listGain fX5_weightGain_21 fX5_momentGain_34 fX5_listGain_34 gW gX
  simp only [inb_n hp (by omega), ck_t, nI_clamp (show p < 2 ^ 31 by omega), p2, p3, th _ ha, th _ hb, bd_s, l3, l4]
  by_cases z1 : gI hm 18 p = -1
  · by_cases z2 : gI hm 17 p = -1
    · simp only [if_pos z1, if_pos z2, if_true, true_and, and_self]
    · simp only [if_pos z1, if_neg z2, if_true, inb15 _ ha z2, ck_t, show ¬ (1 : Int32) = 0 by decide, if_false, and_self]
  · by_cases z2 : gI hm 17 p = -1
    · simp only [if_neg z1, if_pos z2, if_true, inb15 _ hb z1, ck_t, show ¬ (1 : Int32) = 0 by decide, if_false, and_self]
    · simp only [if_neg z1, if_neg z2, inb15 _ ha z2, inb15 _ hb z1, ck_t, show ¬ (1 : Int32) = 0 by decide, if_false, and_self]
/-- the same but for what is put by -/
def exP (h h' : HS) : Prop := ∀ b j, ¬ b = 11 → ¬ (b = 0 ∧ j = 24) → gI h' b j = gI h b j
theorem exP_can {h h' : HS} (s : exP h h') (p : Nat) (n : Int32) : canP h' p n ↔ canP h p n := by
  unfold canP pMu tkE
  rw [show nLd h' = nLd h by show (gI h' 0 0).toNatClampNeg = (gI h 0 0).toNatClampNeg; rw [s 0 0 (by decide) (by decide)], show gI h' 5 = gI h 5 from funext fun j => s _ _ (by decide) (by omega), show gI h' 4 = gI h 4 from funext fun j => s _ _ (by decide) (by omega), s 17 p (by decide) (by omega), s 18 p (by decide) (by omega), s 19 p (by decide) (by omega)]
theorem exP_IL {h h' : HS} (s : exP h h') (I : IL h) : IL h' := IL_cg (fun b j q => s b j (by rintro rfl; cases q) (by rintro ⟨rfl, rfl⟩; cases q)) I
theorem exP_end {h h' : HS} (s : exP h h') (e : Int32) : endP h' e ↔ endP h e := endP_cg (s 0 0 (by decide) (by decide)) (fun i => s 1 i (by decide) (by omega)) e
/-- put by and run, on the model's side -/
theorem pr_run {h : HS} (I : IL h) (Y : VY h) {q : Nat} (hq : q < 4) (e24 : gI h 0 24 = nI q) {p : Nat} (hp : p < 6) (ha : endP h (gI h 17 p)) (hb : endP h (gI h 18 p)) (hne : ¬ gI h 17 p = gI h 18 p) (hr : 1 ≤ (gI h 19 p).toInt ∧ (gI h 19 p).toInt ≤ 50) {n : Int32} (hn : -99 ≤ n.toInt ∧ n.toInt ≤ 99) (hn0 : ¬ n = 0) :
    ∃ h1, fX12_push h = some h1 ∧ (¬ canP h p n → fX12_runs (nI p) n h1 = some (-2, h1) ∧ ∃ h3, fX12_pop h1 = some h3 ∧ exP h h3 ∧ gI h3 0 24 = nI q ∧ ∀ j, j < 15 * q → gI h3 11 j = gI h 11 j) ∧
      (canP h p n → ∃ r h2, fX12_runs (nI p) n h1 = some (r, h2) ∧ ¬ r < 0 ∧ gI h2 0 24 = nI (q + 1) ∧ (∀ b j, ¬ b = 5 → ¬ b = 11 → ¬ (b = 0 ∧ j = 24) → gI h2 b j = gI h b j) ∧ (∀ k, gI h2 5 k = mvH (gI h 5) (gI h 17 p) (gI h 18 p) (pMu h p n) k) ∧ (∀ h2', exP h2 h2' → gI h2' 0 24 = nI (q + 1) → (∀ j, j < 15 * (q + 1) → gI h2' 11 j = gI h2 11 j) → ∃ h3, fX12_pop h2' = some h3 ∧ exP h h3 ∧ gI h3 0 24 = nI q ∧ ∀ j, j < 15 * q → gI h3 11 j = gI h 11 j)) := by
  have h15 := (VN_n I.1).1
  obtain ⟨h1, a1, a2, a3, a4⟩ := e_push hq e24
  have s1 : exP h h1 := fun b j z1 z2 => a3 b j z1 z2
  have I1 := exP_IL s1 I
  have g17 : gI h1 17 p = gI h 17 p := s1 17 p (by decide) (by omega)
  have g18 : gI h1 18 p = gI h 18 p := s1 18 p (by decide) (by omega)
  have g19 : gI h1 19 p = gI h 19 p := s1 19 p (by decide) (by omega)
  have R := e_runsI I1 hp (by rw [g17]; exact (exP_end s1 _).mpr ha) (by rw [g18]; exact (exP_end s1 _).mpr hb) (by rw [g17, g18]; exact hne) (by rw [g19]; exact hr) hn hn0
  rw [exP_can s1 p n] at R
  -- the way back
  have back : ∀ h2, gI h2 0 24 = nI (q + 1) → (∀ j, j < 15 * (q + 1) → gI h2 11 j = gI h1 11 j) → (∀ j, ¬ j < 15 → gI h2 5 j = gI h 5 j) → (∀ b j, ¬ b = 5 → ¬ b = 11 → ¬ (b = 0 ∧ j = 24) → gI h2 b j = gI h b j) → ∃ h3, fX12_pop h2 = some h3 ∧ exP h h3 ∧ gI h3 0 24 = nI q ∧ ∀ j, j < 15 * q → gI h3 11 j = gI h 11 j := by
    intro h2 b1 b2 b3 b4
    obtain ⟨h3, c1, c2, c3, c4⟩ := e_pop hq b1
    refine ⟨h3, c1, fun b j z1 z2 => ?_, c2, fun j hj => ?_⟩
    · by_cases z5 : b = 5
      · subst z5
        rw [c4 j]
        by_cases zj : j < 15
        · rw [if_pos zj, b2 _ (by omega), a4, if_pos (by omega)]
          congr 1
          omega
        · rw [if_neg zj, b3 j zj]
      · rw [c3 b j z5 z2, b4 b j z5 z1 z2]
    · rw [c3 11 j (by decide) (by omega), b2 j (by omega), a4, if_neg (by omega)]
  refine ⟨h1, a1, fun c => ⟨R.2 c, back h1 a2 (fun _ _ => rfl) (fun j _ => s1 5 j (by decide) (by omega)) (fun b j _ z1 z2 => s1 b j z1 z2)⟩, fun c => ?_⟩
  obtain ⟨h2, r1, r2, r3, -⟩ := R.1 c
  have m := pMu_rng (hm := h) hr hn
  have f5 : ∀ k, gI h2 5 k = mvH (gI h 5) (gI h 17 p) (gI h 18 p) (pMu h p n) k := fun k => by
    rw [r3 k, g17, g18, show gI h1 5 = gI h 5 from funext fun j => s1 5 j (by decide) (by omega), show pMu h1 p n = pMu h p n by unfold pMu; rw [g19]]
  have s2 : ∀ b j, ¬ b = 5 → ¬ b = 11 → ¬ (b = 0 ∧ j = 24) → gI h2 b j = gI h b j := fun b j z5 z1 z2 => (r2 b j z5).trans (s1 b j z1 z2)
  have out5 : ∀ j, ¬ j < 15 → gI h2 5 j = gI h 5 j := fun j hj => by
    rw [f5 j]
    unfold mvH
    have no : ∀ e : Int32, endP h e → ¬ e.toInt = (j : Int) := by
      intro e he
      rcases he with rfl | ⟨i, hi, rfl, -⟩
      · exact m1_k
      · rw [nI_k (by omega)]; omega
    rw [if_neg (no _ ha), if_neg (no _ hb)]
  refine ⟨_, h2, r1, ?_, by rw [r2 0 24 (by decide), a2], s2, f5, fun h2' x1 x2 x3 => ?_⟩
  · rw [g19]
    intro z
    have z1 := i32_lt.mp z
    rw [i32_z] at z1
    have ab := iabs_toInt (x := n) (by omega)
    obtain ⟨m1, m2, m3⟩ := mul_rng (x := iabs n) (y := gI h 19 p) (a := 99) (b := 50) (by omega) (by omega) (by omega) (by omega)
    rw [m1] at z1
    have := Int.mul_nonneg (a := (iabs n).toInt) (b := (gI h 19 p).toInt) (by omega) (by omega)
    omega
  · exact back h2' x2 (fun j hj => by rw [x3 j hj, r2 11 j (by decide)]) (fun j hj => by rw [x1 5 j (by decide) (by omega), out5 j hj]) (fun b j z5 z1 z2 => (x1 b j z1 z2).trans (s2 b j z5 z1 z2))
end RUN
