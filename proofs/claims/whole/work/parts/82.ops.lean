section TRL
variable {hc hm : HS}
theorem mvH_back {f : Nat → Int32} {a b mu : Int32} (hab : ¬ a = b) (k : Nat) : mvH (mvH f a b mu) a b (-mu) k = f k := by
  unfold mvH
  by_cases z1 : a.toInt = (k : Int)
  · rw [if_pos z1, if_pos z1]
    grind
  · rw [if_neg z1, if_neg z1]
    by_cases z2 : b.toInt = (k : Int)
    · rw [if_pos z2, if_pos z2]
      grind
    · rw [if_neg z2, if_neg z2]
theorem exP_Bm {h h' : HS} (s : exP h h') (d : Int32) : Bm h' d ↔ Bm h d := by
  obtain ⟨-, -, -, x4, x5, x6, -, -⟩ := exP_M s
  unfold Bm
  rw [x4, x5, x6, s 8 0 (by decide) (by decide), s 8 1 (by decide) (by decide), s 8 2 (by decide) (by decide)]
/-- the first pump's run on both sides -/
theorem first_both (H : RR hc hm) {p nP : Nat} (hnP : nP ≤ 6) (e39 : gI hm 0 39 = nI nP) (PP : ∀ q, q < nP → pmp hm q) (hp : p < nP) {d : Int32} (hd : 0 ≤ d ∧ d ≤ 600) {v2 m : Int32} (hmr : -99 ≤ m.toInt ∧ m.toInt ≤ 99) (hm0 : ¬ m = 0) (v3 v4 v5 v6 v7 : Int32) (T : TS hc v3 v4 v5 v6 v7) (K14 : Int32 → Int32 → Int32 → HS → Option HS) (K26 : Int32 → Int32 → Int32 → Int32 → HS → Option HS) (K47 : Int32 → Int32 → Int32 → Int32 → Int32 → Int32 → Int32 → Int32 → HS → Option (Int32 × HS)) (K60 : Int32 → Int32 → Int32 → Int32 → Int32 → Int32 → Int32 → Int32 → Int32 → HS → Option (Int32 × HS)) :
    ∃ hc' hm' w3 w4 w5 w6 w7, fX5_findTrim_75 K14 K26 d v2 (nI p) m hc = K26 d v2 (nI p) (m + 1) hc' ∧ fX12_trim_102 K47 K60 d v2 v3 v4 v5 v6 v7 (nI p) m hm = K60 d v2 w3 w4 w5 w6 w7 (nI p) (m + 1) hm' ∧ RR hc' hm' ∧ exP hm hm' ∧ TS hc' w3 w4 w5 w6 w7 := by
  have I := H.2.1.1
  have J := H.2.1.2.1
  have P := PP p hp
  obtain ⟨hp6, ha, hb, hne, hr⟩ := P
  obtain ⟨h1, h3, a1, a2, a3, -, a5⟩ := tryM I J (PP p hp) (z := 0) (by omega) (by rw [nI_0]; exact H.2.2) hd hmr hm0
  have dc : Decidable (canP hm p m) := Classical.propDecidable _
  unfold fX5_findTrim_75 fX12_trim_102
  rw [e_can H hp6 ha hb hr hmr dc, bd_s, if10s, a1, bv_s]
  simp only [nm_e1]
  rcases a5 with ⟨b1, b2, b3⟩ | ⟨b1, r, h2, b2, b3, b4, b5, b6, b7, b8, b9, b10, b11, b12⟩
  · rw [if_neg b1, b2, bd_s, if_pos (by decide)]
    unfold fX12_trim_280
    rw [b3, bv_s, nm_e1]
    exact ⟨hc, h3, v3, v4, v5, v6, v7, rfl, rfl, RR_exP a2 (by rw [a3, nI_0]) H, a2, T⟩
  · rw [if_pos b1, b2, bd_s, if_neg b3]
    obtain ⟨hcm, c1, c2, c3, -, -⟩ := e_move H hp6 ha hb hne m
    rw [c1, bv_s]
    obtain ⟨hmX, x1, x2, x3, -⟩ := (e_runs H hp6 ha hb hne hr hmr hm0).1 b1
    have HX : RR hcm hmX := run_RR H hp6 ha hb hne hr hmr c2 c3 x2 x3 b1
    have exg : exP h2 (pI h2 0 24 0) := fun b j _ z2 => by rw [gI_pI, if_neg z2]
    have Hg : RR hcm (pI h2 0 24 0) := RR_cg cg_rf (fun b j q => by
      have n11 : ¬ b = 11 := by rintro rfl; cases q
      by_cases z24 : b = 0 ∧ j = 24
      · rw [z24.1, z24.2, gI_pI, if_pos ⟨rfl, rfl⟩, x2 0 24 (by decide), H.2.2]
      · rw [gI_pI, if_neg z24]
        by_cases z5 : b = 5
        · subst z5; rw [b10, x3]
        · rw [b9 b j z5 n11 z24, x2 b j z5]) HX
    have J2 : IB h2 := IB_cg (fun b j q => b9 b j (by rintro rfl; cases q) (by rintro rfl; cases q) (by rintro ⟨rfl, rfl⟩; cases q)) J
    have e39' : gI h2 0 39 = nI nP := by rw [b9 0 39 (by decide) (by decide) (by decide)]; exact e39
    have end2 : ∀ e, endP h2 e ↔ endP hm e := fun e => endP_cg (b9 0 0 (by decide) (by decide) (by decide)) (fun i => b9 1 i (by decide) (by decide) (by omega)) e
    have PP2 : ∀ q, q < nP → pmp h2 q := fun q hq => by
      obtain ⟨y1, y2, y3, y4, y5⟩ := PP q hq
      unfold pmp
      rw [b9 17 q (by decide) (by decide) (by omega), b9 18 q (by decide) (by decide) (by omega), b9 19 q (by decide) (by decide) (by omega)]
      exact ⟨y1, (end2 _).mpr y2, (end2 _).mpr y3, y4, y5⟩
    have exQ0 : exQ h2 h2 := ⟨fun _ _ _ _ => rfl, b4, fun _ _ => rfl⟩
    -- the way back
    have back : ∀ (hcn h'' : HS) (w3 w4 w5 w6 w7 : Int32), RR hcn (pI h'' 0 24 0) → exQ h2 h'' → TS hcn w3 w4 w5 w6 w7 → (∀ b j, ¬ b = 44 → ¬ (b = 6 ∧ 8 ≤ j) → gI hcn b j = gI hcm b j) → ∃ hc' hm', bv (fX5_move (nI p) (-m) hcn) (fun h20 => K26 d v2 (nI p) (m + 1) h20) = K26 d v2 (nI p) (m + 1) hc' ∧ fX12_trim_280 K47 K60 d v2 w3 w4 w5 w6 w7 (nI p) m h'' = K60 d v2 w3 w4 w5 w6 w7 (nI p) (m + 1) hm' ∧ RR hc' hm' ∧ exP hm hm' ∧ TS hc' w3 w4 w5 w6 w7 := by
      intro hcn h'' w3 w4 w5 w6 w7 Hn exn Tn sn
      obtain ⟨h4, k1, k2, k3, -⟩ := b12 h'' exn.1 exn.2.1 (fun j hj => exn.2.2 j (by omega))
      have exg2 : exP h2 (pI h'' 0 24 0) := fun b j z1 z2 => by rw [gI_pI, if_neg z2]; exact exn.1 b j z1 z2
      obtain ⟨-, y2, y3, y4, -⟩ := exP_pmp exg2 (PP2 p hp)
      obtain ⟨hcb, l1, l2, l3, -, -⟩ := e_move Hn hp6 y2 y3 y4 (-m)
      have g17 : gI (pI h'' 0 24 0) 17 p = gI hm 17 p := (exg2 17 p (by decide) (by omega)).trans (b9 17 p (by decide) (by decide) (by omega))
      have g18 : gI (pI h'' 0 24 0) 18 p = gI hm 18 p := (exg2 18 p (by decide) (by omega)).trans (b9 18 p (by decide) (by decide) (by omega))
      have g19 : gI (pI h'' 0 24 0) 19 p = gI hm 19 p := (exg2 19 p (by decide) (by omega)).trans (b9 19 p (by decide) (by decide) (by omega))
      have g5 : gI (pI h'' 0 24 0) 5 = mvH (gI hm 5) (gI hm 17 p) (gI hm 18 p) (pMu hm p m) := funext fun k => (exg2 5 k (by decide) (by omega)).trans (b10 k)
      have mu : pMu (pI h'' 0 24 0) p (-m) = -pMu hm p m := by unfold pMu; rw [g19, Int32.neg_mul]
      have Hb : RR hcb hm := RR_6 (fun b j z1 z2 _ => by
        by_cases z3 : b = 30
        · subst z3
          rw [l3 j, g5, g17, g18, mu, mvH_back hne]
          exact (H.1.1.2.2.2.2.2 j).symm
        · rw [l2 b j z3, sn b j z2 z1, c2 b j z3]) H
      refine ⟨hcb, h4, by rw [l1, bv_s], ?_, RR_exP k2 (by rw [k3, nI_0]) Hb, k2, TS_cg (fun b j z => l2 b j (by omega)) Tn⟩
      unfold fX12_trim_280
      rw [k1, bv_s, nm_e1]
    have dB : Decidable (Bm h2 d) := Classical.propDecidable _
    have dC : Decidable (Bc hcm d) := Classical.propDecidable _
    unfold fX5_considerFirst
    rw [e_balC (RR_VNc Hg) (RR_VYc Hg) d dC, e_balM b6 b7 d dB]
    simp only [bd_s, if10s, nm_e1]
    have bb : Bc hcm d ↔ Bm h2 d := (RR_Bc Hg d).trans (exP_Bm exg d)
    by_cases cb : Bm h2 d
    · rw [if_pos cb, if_pos (bb.mpr cb)]
      obtain ⟨hcn, n1, n2, -, n4, n5, -, -, n8, n9⟩ := e_note (nI p) m (-1) 0 hcm
      rw [n1, bv_s, bv_s]
      have t1 := iabs_i hmr
      obtain ⟨h'', s1, s2⟩ := sec_noM b5 J2 hp6 hnP e39' PP2 hd hmr K47 K60 (iabs m) (nI p) m (-1) v7 t1 nP 0 h2 (by omega) exQ0 FU (FU_gt (by omega))
      rw [nI_0] at s1
      rw [s1]
      have Tn : TS hcn (iabs m) (nI p) m (-1) v7 := by
        refine Or.inr ⟨by omega, ?_, n4, n5, Or.inl ⟨rfl, by rw [n8, if_pos rfl]⟩⟩
        rw [n9, show iabs (0 : Int32) = 0 by decide, Int32.add_zero]
      have ex2g : exP (pI h2 0 24 0) (pI h'' 0 24 0) := fun b j z1 z2 => by rw [gI_pI, if_neg z2, gI_pI, if_neg z2, s2.1 b j z1 z2]
      have Hn : RR hcn (pI h'' 0 24 0) := RR_exP ex2g (by rw [gI_pI, if_pos ⟨rfl, rfl⟩]) (RR_g n2 Hg)
      obtain ⟨hc', hm', u1, u2, u3, u4, u5⟩ := back hcn h'' _ _ _ _ _ Hn s2 Tn n2
      exact ⟨hc', hm', _, _, _, _, _, u1, u2, u3, u4, u5⟩
    · rw [if_neg cb, if_neg (fun z => cb (bb.mp z)), e_heavyC (RR_VNc Hg) (RR_VYc Hg), bd_s, RR_Hc Hg]
      obtain ⟨-, -, -, y4, y5, y6, -, -⟩ := exP_M exg
      have s1 : ∀ x b j, ¬ b = 44 → ¬ (b = 6 ∧ 8 ≤ j) → gI (pI hcm 6 9 x) b j = gI hcm b j := fun x b j _ z => by rw [gI_pI, if_neg (by omega)]
      have H1 : RR (pI hcm 6 9 (Hm (pI h2 0 24 0) d)) (pI h2 0 24 0) := RR_g (s1 _) Hg
      have s2 : ∀ x y b j, ¬ b = 44 → ¬ (b = 6 ∧ 8 ≤ j) → gI (pI (pI hcm 6 9 x) 6 10 y) b j = gI hcm b j := fun x y b j z0 z => by rw [gI_pI, if_neg (by omega)]; exact s1 x b j z0 z
      have H2 : RR (pI (pI hcm 6 9 (Hm (pI h2 0 24 0) d)) 6 10 (Mm (pI h2 0 24 0))) (pI h2 0 24 0) := RR_g (s2 _ _) Hg
      have s3 : ∀ x y w b j, ¬ b = 44 → ¬ (b = 6 ∧ 8 ≤ j) → gI (pI (pI (pI hcm 6 9 x) 6 10 y) 6 11 w) b j = gI hcm b j := fun x y w b j z0 z => by rw [gI_pI, if_neg (by omega)]; exact s2 x y b j z0 z
      have H3 : RR (pI (pI (pI hcm 6 9 (Hm (pI h2 0 24 0) d)) 6 10 (Mm (pI h2 0 24 0))) 6 11 (Tm (pI h2 0 24 0))) (pI h2 0 24 0) := RR_g (s3 _ _ _) Hg
      rw [e_momC (RR_VNc H1), bd_s, RR_Mc H1, e_listC (RR_VNc H2), bd_s, RR_Tc H2]
      have T3 : TS (pI (pI (pI hcm 6 9 (Hm (pI h2 0 24 0) d)) 6 10 (Mm (pI h2 0 24 0))) 6 11 (Tm (pI h2 0 24 0))) v3 v4 v5 v6 v7 := TS_cg (fun b j z => by
        rw [gI_pI, if_neg (by omega), gI_pI, if_neg (by omega), gI_pI, if_neg (by omega), c2 b j (by omega)]) T
      obtain ⟨hcn, h'', w3, w4, w5, w6, w7, r1, r2, r3, r4, r5, r6⟩ := sec_both b5 J2 hp6 hnP e39' PP2 hd cb hmr K47 K60 nP 0 _ h2 v3 v4 v5 v6 v7 (by omega) H3 exQ0 T3 (by rw [gI_pI, if_neg (by decide), gI_pI, if_neg (by decide), gI_pI, if_pos ⟨rfl, rfl⟩, y4]) (by rw [gI_pI, if_neg (by decide), gI_pI, if_pos ⟨rfl, rfl⟩, y5]) (by rw [gI_pI, if_pos ⟨rfl, rfl⟩, y6]) FU FU (FU_gt (by omega)) (FU_gt (by omega))
      rw [nI_0] at r1 r2
      rw [r1, bv_s, r2]
      obtain ⟨hc', hm', u1, u2, u3, u4, u5⟩ := back hcn h'' _ _ _ _ _ r6 r3 r4 (fun b j z1 z2 => (r5 b j z1 z2).trans (s3 _ _ _ b j z1 z2))
      exact ⟨hc', hm', _, _, _, _, _, u1, u2, u3, u4, u5⟩
theorem op_trim (H : RR hc hm) (p1 p2 : Int32) : OK2 (fX11_trim p1 p2 hc) (fX12_trim p1 p2 hm) := by
  have H2 := RR_thrown 0 H
  have dB : Decidable (Bm (pI hm 0 22 0) p1) := Classical.propDecidable _
  have dC : Decidable (Bc hc p1) := Classical.propDecidable _
  simp only [fX11_trim, fX12_trim, nm_e1, f_isDepthC, f_isDepthM, bd_s, if10s, e_balC (RR_VNc H) (RR_VYc H) p1 dC, e_balM (RR_VN H2) (RR_VY H2) p1 dB]
  refine OK2_if (fun hd => ?_) (fun _ => OK2_c H2)
  have bb := RR_Bc H2 p1
  by_cases cb : Bm (pI hm 0 22 0) p1
  · rw [if_pos cb, if_pos (bb.mpr cb)]
    obtain ⟨r1, r2, r3⟩ := row0 H2
    rw [r1, bv_s]
    exact OK2_c r2
  · rw [if_neg cb, if_neg (fun z => cb (bb.mp z))]
    generalize pI hm 0 22 0 = h0 at *
    obtain ⟨nP, hnP, e39, PQ⟩ := H2.2.1.2.2.1
    have PP0 : ∀ q, q < nP → pmp h0 q := fun q hq => by
      obtain ⟨y1, y2, y3, y4, -⟩ := PQ q hq
      exact ⟨by omega, y1, y2, y3, y4⟩
    have e99 : (99 : Int32).toInt = 99 := by decide +kernel
    have e1 : (1 : Int32).toInt = 1 := by decide +kernel
    -- the runs of one pump
    have runs : ∀ (p : Nat), p < nP → ∀ (K14 : Int32 → Int32 → Int32 → HS → Option HS) (K47 : Int32 → Int32 → Int32 → Int32 → Int32 → Int32 → Int32 → Int32 → HS → Option (Int32 × HS)) (k : Nat) (m : Int32) (hc h : HS) (v3 v4 v5 v6 v7 : Int32), m.toInt + k = 100 → -99 ≤ m.toInt → RR hc h → exP h0 h → TS hc v3 v4 v5 v6 v7 → ∀ n n2, k < n → k < n2 → ∃ hc' h' w3 w4 w5 w6 w7, fX5_findTrim_26 K14 n p1 p2 (nI p) m hc = K14 p1 p2 (nI (p + 1)) hc' ∧ fX12_trim_60 K47 n2 p1 p2 v3 v4 v5 v6 v7 (nI p) m h = K47 p1 p2 w3 w4 w5 w6 w7 (nI (p + 1)) h' ∧ RR hc' h' ∧ exP h0 h' ∧ TS hc' w3 w4 w5 w6 w7 := by
      intro p hp K14 K47 k
      induction k with
      | zero =>
        intro m hc h v3 v4 v5 v6 v7 hk _ H ex T n n2 hn hn2
        obtain ⟨n', rfl⟩ := fuel1 hn
        obtain ⟨n2', rfl⟩ := fuel1 hn2
        refine ⟨hc, h, v3, v4, v5, v6, v7, ?_, ?_, H, ex, T⟩
        · rw [fX5_findTrim_26, if_pos (i32_lt.mpr (by omega)), nm_e1, nI_1]
        · rw [fX12_trim_60, if_pos (i32_lt.mpr (by omega)), nm_e1, nI_1]
      | succ k ih =>
        intro m hc h v3 v4 v5 v6 v7 hk hk0 H ex T n n2 hn hn2
        obtain ⟨n', rfl⟩ := fuel1 hn
        obtain ⟨n2', rfl⟩ := fuel1 hn2
        have rm : -99 ≤ m.toInt ∧ m.toInt ≤ 99 := by omega
        have em : (m + 1).toInt = m.toInt + 1 := by rw [fb_addI9 (by omega) (by omega), e1]
        have nxt := ih (m + 1) hc h v3 v4 v5 v6 v7 (by omega) (by omega) H ex T n' n2' (by omega) (by omega)
        have g43 : gI hc 43 p = gI h 20 p := H.1.2.2.2.2.2.1.2.2.2.2 p
        have n99 : ¬ (99 : Int32) < m := fun z => by have := i32_lt.mp z; omega
        rw [fX5_findTrim_26, fX12_trim_60, if_neg n99, if_neg n99]
        unfold fX5_findTrim_54 fX5_findTrim_55 fX12_trim_86
        simp only [nm_e1, inb_n (show p < 6 by omega) (by omega), ck_t, nI_clamp (show p < 2 ^ 31 by omega), g43, if_true, show ¬ (1 : Int32) = 0 by decide, if_false]
        by_cases c0 : m = 0
        · rw [if_pos c0, if_pos c0]; exact nxt
        · rw [if_neg c0, if_neg c0]
          have t1 := iabs_i rm
          have att := TS_att T (x := (m.toInt.natAbs : Int)) (by omega)
          have fb := first_both H hnP (by rw [ex 0 39 (by decide) (by decide)]; exact e39) (fun q hq => exP_pmp ex (PP0 q hq)) hp hd (v2 := p2) rm c0 v3 v4 v5 v6 v7 T K14 (fX5_findTrim_26 K14 n') K47 (fX12_trim_60 K47 n2')
          have goes : ∃ hc' h' w3 w4 w5 w6 w7, fX5_findTrim_75 K14 (fX5_findTrim_26 K14 n') p1 p2 (nI p) m hc = K14 p1 p2 (nI (p + 1)) hc' ∧ fX12_trim_102 K47 (fX12_trim_60 K47 n2') p1 p2 v3 v4 v5 v6 v7 (nI p) m h = K47 p1 p2 w3 w4 w5 w6 w7 (nI (p + 1)) h' ∧ RR hc' h' ∧ exP h0 h' ∧ TS hc' w3 w4 w5 w6 w7 := by
            obtain ⟨hc1, h1, u3, u4, u5, u6, u7, b1, b2, b3, b4, b5⟩ := fb
            obtain ⟨hc2, h2, w3, w4, w5, w6, w7, d1, d2, d3, d4, d5⟩ := ih (m + 1) hc1 h1 u3 u4 u5 u6 u7 (by omega) (by omega) b3 (exP_t ex b4) b5 n' n2' (by omega) (by omega)
            exact ⟨hc2, h2, w3, w4, w5, w6, w7, by rw [b1, d1], by rw [b2, d2], d3, d4, d5⟩
          by_cases cl : gI hc 6 8 ≤ iabs m
          · -- not fewer
            rw [if_pos cl]
            have cl' := i32_le.mp cl
            have na : ¬ (v3.toInt < 0 ∨ (m.toInt.natAbs : Int) < v3.toInt) := fun z => by have := att.mp z; omega
            have c3 : ¬ v3 < 0 := fun z => na (Or.inl (by have := i32_lt.mp z; rw [i32_z] at this; exact this))
            have c4 : ¬ iabs m < v3 := fun z => na (Or.inr (by have := i32_lt.mp z; omega))
            rw [if_neg c3, if_neg c4]
            by_cases y1 : p2 = 0
            · rw [if_pos y1]; exact nxt
            · rw [if_neg y1]
              by_cases y2 : gI h 20 p = 0
              · rw [if_pos y2]; exact nxt
              · rw [if_neg y2]; exact nxt
          · rw [if_neg cl]
            have cl' : ¬ (gI hc 6 8).toInt ≤ (iabs m).toInt := fun z => cl (i32_le.mpr z)
            have aa := att.mpr (by omega)
            have eX : ∀ X Y : Option (Int32 × HS), (if v3 < 0 then X else if iabs m < v3 then X else Y) = X := by
              intro X Y
              by_cases y : v3 < 0
              · rw [if_pos y]
              · rw [if_neg y, if_pos]
                have y' : ¬ v3.toInt < 0 := fun z => y (i32_lt.mpr (by rw [i32_z]; exact z))
                exact i32_lt.mpr (by omega)
            rw [eX]
            by_cases y1 : p2 = 0
            · rw [if_pos y1, if_pos y1, ite_self]; exact goes
            · rw [if_neg y1, if_neg y1]
              by_cases y2 : gI h 20 p = 0
              · rw [if_pos y2, if_pos y2]; exact nxt
              · rw [if_neg y2, if_neg y2]; exact goes
    -- the end
    have fin : ∀ (hc h : HS) (v3 v4 v5 v6 v7 : Int32), RR hc h → TS hc v3 v4 v5 v6 v7 → OK2 (if gI hc 6 13 = 0 then some (-2, hc) else bv (fX6_empty hc) (fun h9 => fX11_trim_60 FU 0 h9)) (if 0 ≤ v3 then bv (fX12_tell v4 (pI h 0 21 0)) (fun h12 => bv (fX12_tell v5 h12) (fun h13 => if v6 = -1 then some (v3, h13) else bv (fX12_tell v6 h13) (fun h15 => bv (fX12_tell v7 h15) (fun h16 => some (v3, h16))))) else some (-2, h)) := by
      intro hc h v3 v4 v5 v6 v7 H T
      rcases T with ⟨t1, t2, t3⟩ | ⟨t1, t2, t3, t4, t5⟩
      · rw [if_pos t3, if_neg (fun z => by have := i32_le.mp z; rw [i32_z] at this; omega)]
        exact OK2_c H
      · rw [if_pos (i32_le.mpr (by rw [i32_z]; exact t1.1))]
        obtain ⟨f, hf⟩ : ∃ f, FU = f + 5 := ⟨39995, by rw [FU_eq]⟩
        obtain ⟨r1, r2, r3⟩ := row0 H
        rw [r1, bv_s, hf]
        have k0 : (0 : Int32).toNatClampNeg = 0 := by decide
        have k1 : (0 + 1 : Int32).toNatClampNeg = 1 := by decide
        have k2 : (0 + 1 + 1 : Int32).toNatClampNeg = 2 := by decide
        have k3 : (0 + 1 + 1 + 1 : Int32).toNatClampNeg = 3 := by decide
        have b0 : inb 0 4 = true := by decide
        have b1 : inb (0 + 1) 4 = true := by decide
        have b2 : inb (0 + 1 + 1) 4 = true := by decide
        have b3 : inb (0 + 1 + 1 + 1) 4 = true := by decide
        have g1 : ∀ b j, ¬ b = 4 → gI (pI hc 4 1 0) b j = gI hc b j := fun b j z => by rw [gI_pI, if_neg (fun y => z y.1)]
        rcases t5 with ⟨t6, t7⟩ | ⟨t6, t7, t8, t9⟩
        · obtain ⟨d1, d2, d3, d4⟩ := row1 r2 r3 (by omega) v4
          obtain ⟨e1, e2, e3, e4⟩ := row1 d3 d4 (by omega) v5
          have g2 : ∀ b j, ¬ b = 4 → ¬ b = 35 → gI (pI (pI (pI hc 4 1 0) 35 0 v4) 4 1 (nI (0 + 1))) b j = gI hc b j := fun b j z z' => by rw [gI_pI, if_neg (fun y => z y.1), gI_pI, if_neg (fun y => z' y.1), g1 b j z]
          have g3 : ∀ b j, ¬ b = 4 → ¬ b = 35 → gI (pI (pI (pI (pI (pI hc 4 1 0) 35 0 v4) 4 1 (nI (0 + 1))) 35 (0 + 1) v5) 4 1 (nI (0 + 1 + 1))) b j = gI hc b j := fun b j z z' => by rw [gI_pI, if_neg (fun y => z y.1), gI_pI, if_neg (fun y => z' y.1), g2 b j z z']
          rw [if_neg (by rw [t7]; decide), fX11_trim_60, g1 6 13 (by decide), t7, if_neg (by decide), b0, ck_t, k0, g1 44 0 (by decide), t3, d1, bv_s, nm_e1, fX11_trim_60, g2 6 13 (by decide) (by decide), t7, if_neg (by decide), b1, ck_t, k1, g2 44 1 (by decide) (by decide), t4, e1, bv_s, nm_e1, fX11_trim_60, g3 6 13 (by decide) (by decide), t7, if_pos (by decide), g3 6 8 (by decide) (by decide), t2, d2, bv_s, e2, bv_s, if_pos t6]
          exact OK2_c e3
        · obtain ⟨hc2, hc3, hc4, hc5, hm2, hm3, hm4, hm5, u1, u2, u3, u4, u5, u6, u7, u8, u9, -, u11, -⟩ := tell4 r2 r3 v4 v5 v6 v7
          have g2 : ∀ b j, ¬ b = 4 → ¬ b = 35 → gI hc2 b j = gI hc b j := fun b j z z' => ((u11 b j z z').1).trans (g1 b j z)
          have g3 : ∀ b j, ¬ b = 4 → ¬ b = 35 → gI hc3 b j = gI hc b j := fun b j z z' => ((u11 b j z z').2.1).trans (g1 b j z)
          have g4 : ∀ b j, ¬ b = 4 → ¬ b = 35 → gI hc4 b j = gI hc b j := fun b j z z' => ((u11 b j z z').2.2.1).trans (g1 b j z)
          have g5 : ∀ b j, ¬ b = 4 → ¬ b = 35 → gI hc5 b j = gI hc b j := fun b j z z' => ((u11 b j z z').2.2.2).trans (g1 b j z)
          rw [if_neg (by rw [t7]; decide), fX11_trim_60, g1 6 13 (by decide), t7, if_neg (by decide), b0, ck_t, k0, g1 44 0 (by decide), t3, u1, bv_s, nm_e1, fX11_trim_60, g2 6 13 (by decide) (by decide), t7, if_neg (by decide), b1, ck_t, k1, g2 44 1 (by decide) (by decide), t4, u2, bv_s, nm_e1, fX11_trim_60, g3 6 13 (by decide) (by decide), t7, if_neg (by decide), b2, ck_t, k2, g3 44 2 (by decide) (by decide), t8, u3, bv_s, nm_e1, fX11_trim_60, g4 6 13 (by decide) (by decide), t7, if_neg (by decide), b3, ck_t, k3, g4 44 3 (by decide) (by decide), t9, u4, bv_s, nm_e1, fX11_trim_60, g5 6 13 (by decide) (by decide), t7, if_pos (by decide), g5 6 8 (by decide) (by decide), t2, u5, bv_s, u6, bv_s, if_neg t6, u7, bv_s, u8, bv_s]
          exact OK2_c u9
    have pumps : ∀ (k p : Nat) (hc h : HS) (v3 v4 v5 v6 v7 : Int32), p + k = nP → RR hc h → exP h0 h → TS hc v3 v4 v5 v6 v7 → ∀ n n2, k < n → k < n2 → OK2 (bv (fX5_findTrim_14 n p1 p2 (nI p) hc) (fun h7 => if gI h7 6 13 = 0 then some (-2, h7) else bv (fX6_empty h7) (fun h9 => fX11_trim_60 FU 0 h9))) (fX12_trim_47 n2 p1 p2 v3 v4 v5 v6 v7 (nI p) h) := by
      intro k
      induction k with
      | zero =>
        intro p hc h v3 v4 v5 v6 v7 hk H ex T n n2 hn hn2
        obtain ⟨n', rfl⟩ := fuel1 hn
        obtain ⟨n2', rfl⟩ := fuel1 hn2
        have h39 : gI h 0 39 = nI nP := by rw [ex 0 39 (by decide) (by decide)]; exact e39
        rw [fX5_findTrim_14, fX12_trim_47, H.1.2.2.2.2.2.1.1, h39, if_pos (nI_le (by omega) (by omega)), if_pos (nI_le (by omega) (by omega)), bv_s]
        simp only [nm_e1]
        exact fin hc h v3 v4 v5 v6 v7 H T
      | succ k ih =>
        intro p hc h v3 v4 v5 v6 v7 hk H ex T n n2 hn hn2
        obtain ⟨n', rfl⟩ := fuel1 hn
        obtain ⟨n2', rfl⟩ := fuel1 hn2
        have h39 : gI h 0 39 = nI nP := by rw [ex 0 39 (by decide) (by decide)]; exact e39
        obtain ⟨hc1, h1, w3, w4, w5, w6, w7, b1, b2, b3, b4, b5⟩ := runs p (by omega) (fX5_findTrim_14 n') (fX12_trim_47 n2') 199 (-99) hc h v3 v4 v5 v6 v7 (by rw [m99]; omega) (by rw [m99]; omega) H ex T FU FU (FU_gt (by omega)) (FU_gt (by omega))
        rw [fX5_findTrim_14, fX12_trim_47, H.1.2.2.2.2.2.1.1, h39, if_neg (nI_ge (by omega) (by omega)), if_neg (nI_ge (by omega) (by omega)), b1, b2]
        exact ih (p + 1) hc1 h1 w3 w4 w5 w6 w7 (by omega) b3 b4 b5 n' n2' (by omega) (by omega)
    unfold fX5_findTrim
    simp only [nm_e1]
    have HC : RR (pI (pI hc 6 13 0) 6 8 199) h0 := RR_6 (fun b j z1 _ _ => by rw [gI_pI, if_neg (by omega), gI_pI, if_neg (by omega)]) H2
    have T0 : TS (pI (pI hc 6 13 0) 6 8 199) (-2) 0 0 (-1) 0 := Or.inl ⟨by decide +kernel, by rw [gI_pI, if_pos ⟨rfl, rfl⟩], by rw [gI_pI, if_neg (by decide), gI_pI, if_pos ⟨rfl, rfl⟩]⟩
    have k0 := pumps nP 0 _ h0 (-2) 0 0 (-1) 0 (by omega) HC (fun _ _ _ _ => rfl) T0 FU FU (FU_gt (by omega)) (FU_gt (by omega))
    rw [nI_0] at k0
    exact k0
end TRL
