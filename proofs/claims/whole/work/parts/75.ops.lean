section BES
variable {hc hm : HS}
/-- a row of three -/
theorem tell3 (H : RR hc hm) (u v w : Int32) : ∃ hc1 hc2 hc3 hc4 hm2 hm3 hm4, fX6_empty hc = some hc1 ∧ fX6_add u hc1 = some hc2 ∧ fX6_add v hc2 = some hc3 ∧ fX6_add w hc3 = some hc4 ∧ fX12_tell u (pI hm 0 21 0) = some hm2 ∧ fX12_tell v hm2 = some hm3 ∧ fX12_tell w hm3 = some hm4 ∧ RR hc4 hm4 ∧ (∀ b j, ¬ b = 4 → ¬ b = 35 → gI hc1 b j = gI hc b j ∧ gI hc2 b j = gI hc b j ∧ gI hc3 b j = gI hc b j ∧ gI hc4 b j = gI hc b j) ∧ (∀ b j, ¬ b = 10 → ¬ (b = 0 ∧ j = 21) → gI hm2 b j = gI hm b j ∧ gI hm3 b j = gI hm b j ∧ gI hm4 b j = gI hm b j) := by
  obtain ⟨a1, a2, a3⟩ := row0 H
  obtain ⟨b1, b2, b3, b4⟩ := row1 a2 a3 (by omega) u
  obtain ⟨d1, d2, d3, d4⟩ := row1 b3 b4 (by omega) v
  obtain ⟨e1, e2, e3, e4⟩ := row1 d3 d4 (by omega) w
  refine ⟨_, _, _, _, _, _, _, a1, b1, d1, e1, b2, d2, e2, e3, fun b j h1 h2 => ⟨?_, ?_, ?_, ?_⟩, fun b j h1 h2 => ⟨?_, ?_, ?_⟩⟩
  all_goals simp only [gI_pI, h1, h2, false_and, if_false]
theorem RR_6 {hc' : HS} (s : ∀ b j, ¬ (b = 6 ∧ 8 ≤ j) → ¬ b = 44 → ¬ b = 10 → gI hc' b j = gI hc b j) (H : RR hc hm) : RR hc' hm := RR_cg (fun b j q => s b j (by
  rintro ⟨rfl, z⟩
  have : j = 3 := by simpa [kcA] using q
  omega) (by rintro rfl; cases q) (by rintro rfl; cases q)) cg_rf H
theorem RR_exP {hm' : HS} (s : exP hm hm') (e : gI hm' 0 24 = 0) (H : RR hc hm) : RR hc hm' := RR_cg cg_rf (fun b j q => by
  by_cases z : b = 0 ∧ j = 24
  · rw [z.1, z.2, e, H.2.2]
  · exact s b j (by rintro rfl; cases q) z) H
theorem exP_M {h h' : HS} (s : exP h h') : nLd h' = nLd h ∧ (VN h → VN h') ∧ (VY h → VY h') ∧ (∀ d, Hm h' d = Hm h d) ∧ Mm h' = Mm h ∧ Tm h' = Tm h ∧ (∀ d, Lm h' d = Lm h d) ∧ Wm h' = Wm h := by
  obtain ⟨a1, a2, a3, a4, -, a5⟩ := sm_M (h := h) (h' := h') (s _ _ (by decide) (by decide)) (s _ _ (by decide) (by decide)) (s _ _ (by decide) (by decide)) (s _ _ (by decide) (by decide)) (s _ _ (by decide) (by decide)) (s _ _ (by decide) (by decide)) (s _ _ (by decide) (by decide)) (fun j => s _ _ (by omega) (by omega)) (fun j => s _ _ (by omega) (by omega)) (fun j => s _ _ (by omega) (by omega)) (fun j => s _ _ (by omega) (by omega))
  obtain ⟨b1, b2, b3⟩ := a5 (fun j => s _ _ (by omega) (by omega))
  refine ⟨a1, a2, a3, fun d => ?_, b2, b3, a4, b1⟩
  unfold Hm
  rw [b1, a4]
theorem exP_t {h h1 h2 : HS} (a : exP h h1) (b : exP h1 h2) : exP h h2 := fun x j z1 z2 => (b x j z1 z2).trans (a x j z1 z2)
def bt (hN mN v4 v5 : Int32) : Prop := iabs hN < iabs v4 ∨ (iabs hN = iabs v4 ∧ iabs mN < iabs v5)
theorem cons_C (H : RR hc hm) {p : Nat} (hp : p < 6) (ha : endP hm (gI hm 17 p)) (hb : endP hm (gI hm 18 p)) (hr : 1 ≤ (gI hm 19 p).toInt ∧ (gI hm 19 p).toInt ≤ 50) {n : Int32} (hn : -99 ≤ n.toInt ∧ n.toInt ≤ 99) (H0 M0 : Int32) :
    (¬ (canP hm p n ∧ bt (H0 + pMu hm p n * gW (gI hm 17 p) (gI hm 18 p)) (M0 + pMu hm p n * gX (gI hm 2) (gI hm 17 p) (gI hm 18 p)) (gI hc 6 9) (gI hc 6 10)) → fX5_considerRun (nI p) n H0 M0 hc = some hc) ∧
    (canP hm p n ∧ bt (H0 + pMu hm p n * gW (gI hm 17 p) (gI hm 18 p)) (M0 + pMu hm p n * gX (gI hm 2) (gI hm 17 p) (gI hm 18 p)) (gI hc 6 9) (gI hc 6 10) → ∃ hc', fX5_considerRun (nI p) n H0 M0 hc = some hc' ∧ gI hc' 6 8 = n ∧ gI hc' 6 9 = H0 + pMu hm p n * gW (gI hm 17 p) (gI hm 18 p) ∧ gI hc' 6 10 = M0 + pMu hm p n * gX (gI hm 2) (gI hm 17 p) (gI hm 18 p) ∧ RR hc' hm) := by
  have dc : Decidable (canP hm p n) := Classical.propDecidable _
  obtain ⟨p1, p2, p3, p4, p5⟩ := H.1.2.2.2.2.2.1
  obtain ⟨g1, g2, -⟩ := e_gains H hp ha hb
  unfold fX5_considerRun
  rw [e_can H hp ha hb hr hn dc, bd_s, if10s]
  by_cases c : canP hm p n
  · rw [if_pos c]
    simp only [inb_n hp (by omega), ck_t, nI_clamp (show p < 2 ^ 31 by omega), g1, g2, bd_s, nm_e1, p4]
    rw [show n * gI hm 19 p = pMu hm p n from rfl]
    generalize H0 + pMu hm p n * gW (gI hm 17 p) (gI hm 18 p) = hN
    generalize M0 + pMu hm p n * gX (gI hm 2) (gI hm 17 p) (gI hm 18 p) = mN
    have tk : ∃ hc', fX5_considerRun_116 n hN mN hc = some hc' ∧ gI hc' 6 8 = n ∧ gI hc' 6 9 = hN ∧ gI hc' 6 10 = mN ∧ RR hc' hm := by
      unfold fX5_considerRun_116
      simp only [nm_e1]
      refine ⟨_, rfl, ?_, ?_, ?_, RR_6 (fun b j z1 _ _ => ?_) H⟩
      · rw [gI_pI, if_neg (by decide), gI_pI, if_neg (by decide), gI_pI, if_pos ⟨rfl, rfl⟩]
      · rw [gI_pI, if_neg (by decide), gI_pI, if_pos ⟨rfl, rfl⟩]
      · rw [gI_pI, if_pos ⟨rfl, rfl⟩]
      · rw [gI_pI, if_neg (by omega), gI_pI, if_neg (by omega), gI_pI, if_neg (by omega)]
    unfold fX5_considerRun_67 fX5_considerRun_89
    simp only [show ¬ (1 : Int32) = 0 by decide, if_false, if_true]
    by_cases x1 : iabs (gI hc 6 9) ≤ iabs hN
    · simp only [if_pos x1]
      by_cases x2 : iabs hN = iabs (gI hc 6 9)
      · simp only [if_pos x2]
        by_cases x3 : iabs (gI hc 6 10) ≤ iabs mN
        · rw [if_pos x3]
          refine ⟨fun _ => rfl, fun z => ?_⟩
          rcases z.2 with y | ⟨-, y⟩
          · exact absurd y (Int32.not_lt.mpr x1)
          · exact absurd y (Int32.not_lt.mpr x3)
        · rw [if_neg x3]
          exact ⟨fun z => absurd ⟨c, Or.inr ⟨x2, Int32.not_le.mp x3⟩⟩ z, fun _ => tk⟩
      · simp only [if_neg x2]
        refine ⟨fun _ => trivial, fun z => ?_⟩
        rcases z.2 with y | ⟨y, -⟩
        · exact absurd y (Int32.not_lt.mpr x1)
        · exact absurd y x2
    · simp only [if_neg x1, ite_self]
      exact ⟨fun z => absurd ⟨c, Or.inl (Int32.not_le.mp x1)⟩ z, fun _ => tk⟩
  · rw [if_neg c]
    exact ⟨fun _ => rfl, fun z => absurd z.1 c⟩
theorem best_M {h : HS} (H : RR hc h) (K : Int32 → Int32 → Int32 → Int32 → Int32 → Int32 → HS → Option (Int32 × HS)) {p : Nat} (hp : p < 6) (ha : endP h (gI h 17 p)) (hb : endP h (gI h 18 p)) (hne : ¬ gI h 17 p = gI h 18 p) (hr : 1 ≤ (gI h 19 p).toInt ∧ (gI h 19 p).toInt ≤ 50) {v6 v7 : Int32} (hn : -99 ≤ (v7 * v6).toInt ∧ (v7 * v6).toInt ≤ 99) (hn0 : ¬ v7 * v6 = 0) (h2 : ¬ 2 ≤ v7) (n : Nat) (d v3 v4 v5 : Int32) :
    ∃ h', exP h h' ∧ gI h' 0 24 = 0 ∧ (¬ (canP h p (v7 * v6) ∧ bt (Hm h d + pMu h p (v7 * v6) * gW (gI h 17 p) (gI h 18 p)) (Mm h + pMu h p (v7 * v6) * gX (gI h 2) (gI h 17 p) (gI h 18 p)) v4 v5) → fX12_best_57 K (n + 1) (nI p) d v3 v4 v5 v6 v7 h = fX12_best_57 K n (nI p) d v3 v4 v5 v6 (v7 + 2) h') ∧
    (canP h p (v7 * v6) ∧ bt (Hm h d + pMu h p (v7 * v6) * gW (gI h 17 p) (gI h 18 p)) (Mm h + pMu h p (v7 * v6) * gX (gI h 2) (gI h 17 p) (gI h 18 p)) v4 v5 → fX12_best_57 K (n + 1) (nI p) d v3 v4 v5 v6 v7 h = fX12_best_57 K n (nI p) d (v7 * v6) (Hm h d + pMu h p (v7 * v6) * gW (gI h 17 p) (gI h 18 p)) (Mm h + pMu h p (v7 * v6) * gX (gI h 2) (gI h 17 p) (gI h 18 p)) v6 (v7 + 2) h') := by
  have I := H.2.1.1
  obtain ⟨h1, a1, a2, a3⟩ := pr_run I (RR_VY H) (q := 0) (by omega) (by rw [nI_0]; exact H.2.2) hp ha hb hne hr hn hn0
  rw [fX12_best_57, if_neg h2, a1, bv_s]
  unfold fX12_best_133 fX12_best_147
  simp only [nm_e1]
  by_cases c : canP h p (v7 * v6)
  · obtain ⟨r, h2s, b1, b2, b3, b4, b5, b6⟩ := a3 c
    obtain ⟨-, q2, q3, -, -, q6, -, q8⟩ := run_M (h := h) (h' := h2s) (RR_15 H) ha hb hne b4 b5
    obtain ⟨h3, c1, c2, c3, -⟩ := b6 h2s (fun _ _ _ _ => rfl) b3 (fun _ _ => rfl)
    rw [b1, bd_s, if_neg b2, e_heavyM (q2 (RR_VN H)) (q3 (RR_VY H)), bd_s, e_momM0 (q2 (RR_VN H)), bd_s, q8, q6, c1, bv_s]
    refine ⟨h3, c2, by rw [c3, nI_0], fun z => ?_, fun z => ?_⟩
    · have z' : ¬ bt (Hm h d + pMu h p (v7 * v6) * gW (gI h 17 p) (gI h 18 p)) (Mm h + pMu h p (v7 * v6) * gX (gI h 2) (gI h 17 p) (gI h 18 p)) v4 v5 := fun y => z ⟨c, y⟩
      rw [if_neg (fun y => z' (Or.inl y))]
      by_cases y1 : iabs (Hm h d + pMu h p (v7 * v6) * gW (gI h 17 p) (gI h 18 p)) = iabs v4
      · rw [if_pos y1, if_pos (Int32.not_lt.mp (fun y => z' (Or.inr ⟨y1, y⟩))), bv_s]
      · rw [if_neg y1, bv_s]
    · rcases z.2 with y | ⟨y1, y2⟩
      · rw [if_pos y]
      · rw [if_neg (by rw [y1]; exact Int32.lt_irrefl), if_pos y1, if_neg (Int32.not_le.mpr y2)]
  · obtain ⟨b1, h3, c1, c2, c3, -⟩ := a2 c
    rw [b1, bd_s, if_pos (by decide), c1, bv_s]
    exact ⟨h3, c2, by rw [c3, nI_0], fun _ => rfl, fun z => absurd z.1 c⟩
theorem op_best (H : RR hc hm) (p1 p2 : Int32) : OK2 (fX11_best p1 p2 hc) (fX12_best p1 p2 hm) := by
  have H2 := RR_thrown 0 H
  have e39 : gI (pI hm 0 22 0) 0 39 = gI hm 0 39 := by rw [gI_pI, if_neg (by decide)]
  simp only [fX11_best, fX12_best, nm_e1, f_there5 H, f_in, bd_s, f_isDepthC, f_isDepthM, if10s, e39]
  refine OK2_if (fun c1 => OK2_if (fun c2 => ?_) (fun _ => OK2_c H2)) (fun _ => OK2_c H2)
  obtain ⟨q, -, eq, -⟩ := H2.2.1.2.2.1
  obtain ⟨p, hp, rfl, ha, hb, hne, hr⟩ := pump_at H2 (x := p1) eq (by rw [e39]; exact c1)
  unfold fX5_findBest
  rw [e_heavyC (RR_VNc H) (RR_VYc H), bd_s, RR_Hc H, e_momC (RR_VNc H), bd_s, RR_Mc H, e_heavyM (RR_VN H2) (RR_VY H2), bd_s, e_momM0 (RR_VN H2), bd_s, show Hm (pI hm 0 22 0) p2 = Hm hm p2 from rfl, show Mm (pI hm 0 22 0) = Mm hm from rfl]
  simp only [nm_e1]
  generalize eh0 : pI hm 0 22 0 = h0 at *
  have eH0 : Hm h0 p2 = Hm hm p2 := by rw [← eh0]; rfl
  have eM0 : Mm h0 = Mm hm := by rw [← eh0]; rfl
  rw [← eH0, ← eM0]
  have key : ∀ (k s : Nat) (hc h : HS) (v3 v4 v5 : Int32), (1 ≤ s ∧ s + k = 100) → RR hc h → exP h0 h → gI hc 6 8 = v3 → gI hc 6 9 = v4 → gI hc 6 10 = v5 → ∀ n m, k < n → k < m → OK2 (bv (fX5_findBest_37 n (nI p) (Hm h0 p2) (Mm h0) (nI s) hc) (fun h7 => bv (fX6_empty h7) (fun h8 => bv (fX6_add (gI h8 6 8) h8) (fun h9 => bv (fX6_add (gI h9 6 9) h9) (fun h10 => bv (fX6_add (gI h10 6 10) h10) (fun h11 => some (0, h11))))))) (fX12_best_47 m (nI p) p2 v3 v4 v5 (nI s) h) := by
    intro k
    have e99 : (99 : Int32) = nI 99 := by decide +kernel
    induction k with
    | zero =>
      intro s hc h v3 v4 v5 hs H _ f1 f2 f3 n m hn hm1
      obtain ⟨n', rfl⟩ := fuel1 hn
      obtain ⟨m', rfl⟩ := fuel1 hm1
      obtain ⟨hc1, hc2, hc3, hc4, hm2, hm3, hm4, t1, t2, t3, t4, t5, t6, t7, t8, t9, -⟩ := tell3 H v3 v4 v5
      rw [fX5_findBest_37, fX12_best_47, e99, if_pos (nI_lt (by omega) (by omega)), if_pos (nI_lt (by omega) (by omega)), bv_s, t1, bv_s, (t9 6 8 (by decide) (by decide)).1, f1, t2, bv_s, (t9 6 9 (by decide) (by decide)).2.1, f2, t3, bv_s, (t9 6 10 (by decide) (by decide)).2.2.1, f3, t4, bv_s, nm_e1, t5, bv_s, t6, bv_s, t7, bv_s]
      exact OK2_c t8
    | succ k ih =>
      intro s hc h v3 v4 v5 hs H ex f1 f2 f3 n m hn hm1
      obtain ⟨n', rfl⟩ := fuel1 hn
      obtain ⟨m', rfl⟩ := fuel1 hm1
      obtain ⟨f, hf⟩ : ∃ f, FU = f + 3 := ⟨39997, by rw [FU_eq]⟩
      have tS : (nI s).toInt = s := nI_toInt (by omega)
      have tN : (-nI s).toInt = -(s : Int) := by rw [neg_rng (by rw [tS]; omega), tS]
      have e1 : (-1 : Int32) * nI s = -nI s := by rw [Int32.neg_mul, Int32.one_mul]
      have e2 : (1 : Int32) * nI s = nI s := Int32.one_mul _
      -- one try on both sides
      have two : ∀ (hc h : HS) (v3 v4 v5 v7 : Int32) (f : Nat), RR hc h → exP h0 h → gI hc 6 8 = v3 → gI hc 6 9 = v4 → gI hc 6 10 = v5 → (-99 ≤ (v7 * nI s).toInt ∧ (v7 * nI s).toInt ≤ 99) → ¬ v7 * nI s = 0 → ¬ 2 ≤ v7 → ∃ hc' h' w3 w4 w5, fX5_considerRun (nI p) (v7 * nI s) (Hm h0 p2) (Mm h0) hc = some hc' ∧ fX12_best_57 (fX12_best_47 m') (f + 1) (nI p) p2 v3 v4 v5 (nI s) v7 h = fX12_best_57 (fX12_best_47 m') f (nI p) p2 w3 w4 w5 (nI s) (v7 + 2) h' ∧ RR hc' h' ∧ exP h0 h' ∧ gI hc' 6 8 = w3 ∧ gI hc' 6 9 = w4 ∧ gI hc' 6 10 = w5 := by
        intro hc h v3 v4 v5 v7 f H ex f1 f2 f3 r1 r2 r3
        have g17 : gI h 17 p = gI h0 17 p := ex 17 p (by decide) (by omega)
        have g18 : gI h 18 p = gI h0 18 p := ex 18 p (by decide) (by omega)
        have g19 : gI h 19 p = gI h0 19 p := ex 19 p (by decide) (by omega)
        obtain ⟨-, -, -, x4, x5, -⟩ := exP_M ex
        have ha' : endP h (gI h 17 p) := by rw [g17]; exact (exP_end ex _).mpr ha
        have hb' : endP h (gI h 18 p) := by rw [g18]; exact (exP_end ex _).mpr hb
        obtain ⟨u1, u2⟩ := cons_C H hp ha' hb' (by rw [g19]; exact hr) r1 (Hm h p2) (Mm h)
        obtain ⟨h', w1, w2, w3, w4⟩ := best_M H (fX12_best_47 m') hp ha' hb' (by rw [g17, g18]; exact hne) (by rw [g19]; exact hr) r1 r2 r3 f p2 v3 v4 v5
        rw [x4, x5] at u1 u2
        rw [f2, f3] at u1 u2
        rw [x4, x5] at w3 w4
        by_cases c : canP h p (v7 * nI s) ∧ bt (Hm h0 p2 + pMu h p (v7 * nI s) * gW (gI h 17 p) (gI h 18 p)) (Mm h0 + pMu h p (v7 * nI s) * gX (gI h 2) (gI h 17 p) (gI h 18 p)) v4 v5
        · obtain ⟨hc', k1, k2, k3, k4, k5⟩ := u2 c
          exact ⟨hc', h', _, _, _, k1, w4 c, RR_exP w1 w2 k5, exP_t ex w1, k2, k3, k4⟩
        · exact ⟨hc, h', v3, v4, v5, u1 c, w3 c, RR_exP w1 w2 H, exP_t ex w1, f1, f2, f3⟩
      obtain ⟨hcA, hA, a3, a4, a5, k1, k2, k3, k4, k5, k6, k7⟩ := two hc h v3 v4 v5 (-1) (f + 2) H ex f1 f2 f3 (by rw [e1, tN]; omega) (by rw [e1]; intro z; have := congrArg Int32.toInt z; rw [tN, i32_z] at this; omega) (by decide)
      obtain ⟨hcB, hB, b3, b4, b5, l1, l2, l3, l4, l5, l6, l7⟩ := two hcA hA a3 a4 a5 1 (f + 1) k3 k4 k5 k6 k7 (by rw [e2, tS]; omega) (by rw [e2]; exact nI_ne0 (by omega) (by omega)) (by decide)
      rw [e1] at k1
      rw [e2] at l1
      rw [show (-1 : Int32) + 2 = 1 by decide] at k2
      rw [show (1 : Int32) + 2 = 3 by decide] at l2
      rw [fX5_findBest_37, fX12_best_47, e99, if_neg (nI_nlt (by omega) (by omega)), if_neg (nI_nlt (by omega) (by omega)), k1, bv_s, l1, bv_s, nm_e1, nI_1, hf, k2, l2, fX12_best_57, if_pos (by decide), nm_e1, nI_1]
      exact ih (s + 1) hcB hB b3 b4 b5 (by omega) l3 l4 l5 l6 l7 n' m' (by omega) (by omega)
  have HC : RR (pI (pI (pI hc 6 8 0) 6 9 (Hm h0 p2)) 6 10 (Mm h0)) h0 := RR_6 (fun b j z1 _ _ => by rw [gI_pI, if_neg (by omega), gI_pI, if_neg (by omega), gI_pI, if_neg (by omega)]) H2
  have k0 := key 99 1 _ h0 0 (Hm h0 p2) (Mm h0) (by omega) HC (fun _ _ _ _ => rfl) (by rw [gI_pI, if_neg (by decide), gI_pI, if_neg (by decide), gI_pI, if_pos ⟨rfl, rfl⟩]) (by rw [gI_pI, if_neg (by decide), gI_pI, if_pos ⟨rfl, rfl⟩]) (by rw [gI_pI, if_pos ⟨rfl, rfl⟩]) FU FU (FU_gt (by omega)) (FU_gt (by omega))
  rw [show nI 1 = 1 by decide] at k0
  exact k0
end BES
