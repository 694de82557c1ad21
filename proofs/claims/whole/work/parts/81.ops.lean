section TRK
variable {hc hm : HS}
def TS (hc : HS) (v3 v4 v5 v6 v7 : Int32) : Prop := (v3.toInt = -2 ∧ gI hc 6 8 = 199 ∧ gI hc 6 13 = 0) ∨ ((0 ≤ v3.toInt ∧ v3.toInt ≤ 198) ∧ gI hc 6 8 = v3 ∧ gI hc 44 0 = v4 ∧ gI hc 44 1 = v5 ∧ ((v6 = -1 ∧ gI hc 6 13 = 2) ∨ (¬ v6 = -1 ∧ gI hc 6 13 = 4 ∧ gI hc 44 2 = v6 ∧ gI hc 44 3 = v7)))
theorem TS_cg {hc' : HS} {v3 v4 v5 v6 v7 : Int32} (s : ∀ b j, (b = 6 ∧ (j = 8 ∨ j = 13)) ∨ b = 44 → gI hc' b j = gI hc b j) (T : TS hc v3 v4 v5 v6 v7) : TS hc' v3 v4 v5 v6 v7 := by
  unfold TS at *
  rw [s 6 8 (by decide), s 6 13 (by decide), s 44 0 (by decide), s 44 1 (by decide), s 44 2 (by decide), s 44 3 (by decide)]
  exact T
theorem TS_att {v3 v4 v5 v6 v7 : Int32} (T : TS hc v3 v4 v5 v6 v7) {x : Int} (hx : x ≤ 198) : (v3.toInt < 0 ∨ x < v3.toInt) ↔ x < (gI hc 6 8).toInt := by
  rcases T with ⟨t1, t2, -⟩ | ⟨t1, t2, -⟩
  · have e : (199 : Int32).toInt = 199 := by decide +kernel
    rw [t2, e]
    omega
  · rw [t2]
    omega
theorem e_note (x m o r : Int32) (h : HS) : ∃ hc', fX5_noteFound x m o r h = some hc' ∧ (∀ b j, ¬ b = 44 → ¬ (b = 6 ∧ 8 ≤ j) → gI hc' b j = gI h b j) ∧ (∀ j, ¬ j = 8 → ¬ j = 13 → gI hc' 6 j = gI h 6 j) ∧ gI hc' 44 0 = x ∧ gI hc' 44 1 = m ∧ gI hc' 44 2 = o ∧ gI hc' 44 3 = r ∧ gI hc' 6 13 = (if o = -1 then 2 else 4) ∧ gI hc' 6 8 = iabs m + iabs r := by
  unfold fX5_noteFound fX5_noteFound_40
  simp only [nm_e1]
  have q : ∀ z : Int32, ∃ hc', some (pI (pI (pI (pI (pI (pI h 44 0 x) 44 1 m) 44 2 o) 44 3 r) 6 13 z) 6 8 (iabs m + iabs r)) = some hc' ∧ (∀ b j, ¬ b = 44 → ¬ (b = 6 ∧ 8 ≤ j) → gI hc' b j = gI h b j) ∧ (∀ j, ¬ j = 8 → ¬ j = 13 → gI hc' 6 j = gI h 6 j) ∧ gI hc' 44 0 = x ∧ gI hc' 44 1 = m ∧ gI hc' 44 2 = o ∧ gI hc' 44 3 = r ∧ gI hc' 6 13 = z ∧ gI hc' 6 8 = iabs m + iabs r := by
    intro z
    refine ⟨_, rfl, fun b j h1 h2 => ?_, fun j h1 h2 => ?_, ?_, ?_, ?_, ?_, ?_, ?_⟩
    · rw [gI_pI, if_neg (by omega), gI_pI, if_neg (by omega), gI_pI, if_neg (by omega), gI_pI, if_neg (by omega), gI_pI, if_neg (by omega), gI_pI, if_neg (by omega)]
    · rw [gI_pI, if_neg (by omega), gI_pI, if_neg (by omega), gI_pI, if_neg (by omega), gI_pI, if_neg (by omega), gI_pI, if_neg (by omega), gI_pI, if_neg (by omega)]
    all_goals simp [gI_pI]
  by_cases c : o = -1
  · rw [if_pos c, if_pos c]; exact q 2
  · rw [if_neg c, if_neg c]; exact q 4
/-- a pump that is passed over -/
theorem skipM {h' : HS} {p q : Nat} (hq : q < 6) {d v2 m : Int32} (hs : q = p ∨ (¬ v2 = 0 ∧ gI h' 20 q = 0)) (K47 : Int32 → Int32 → Int32 → Int32 → Int32 → Int32 → Int32 → Int32 → HS → Option (Int32 × HS)) (K60 : Int32 → Int32 → Int32 → Int32 → Int32 → Int32 → Int32 → Int32 → Int32 → HS → Option (Int32 × HS)) (K145 : Int32 → Int32 → Int32 → Int32 → Int32 → Int32 → Int32 → Int32 → Int32 → Int32 → HS → Option (Int32 × HS)) (v3 v4 v5 v6 v7 : Int32) :
    ∀ (k : Nat) (κ : Int32), κ.toInt + k = 100 → -99 ≤ κ.toInt → ∀ n, k < n → fX12_trim_158 K47 K60 K145 n d v2 v3 v4 v5 v6 v7 (nI p) m (nI q) κ h' = K145 d v2 v3 v4 v5 v6 v7 (nI p) m (nI (q + 1)) h' := by
  intro k
  have e99 : (99 : Int32).toInt = 99 := by decide +kernel
  have e1 : (1 : Int32).toInt = 1 := by decide +kernel
  induction k with
  | zero =>
    intro κ hk _ n hn
    obtain ⟨n', rfl⟩ := fuel1 hn
    rw [fX12_trim_158, if_pos (i32_lt.mpr (by omega)), nm_e1, nI_1]
  | succ k ih =>
    intro κ hk hk0 n hn
    obtain ⟨n', rfl⟩ := fuel1 hn
    have eκ : (κ + 1).toInt = κ.toInt + 1 := by rw [fb_addI9 (by omega) (by omega), e1]
    have r := ih (κ + 1) (by omega) (by omega) n' (by omega)
    rw [fX12_trim_158, if_neg (fun z => by have := i32_lt.mp z; omega)]
    simp only [nm_e1]
    by_cases c1 : nI q = nI p
    · rw [if_pos c1]; exact r
    · rw [if_neg c1]
      rcases hs with z | ⟨z1, z2⟩
      · exact absurd (by rw [z]) c1
      · by_cases c2 : κ = 0
        · rw [if_pos c2]; exact r
        · rw [if_neg c2, if_neg z1, inb_n hq (by omega), ck_t, nI_clamp (by omega), z2, if_pos rfl]; exact r
theorem m99 : (-99 : Int32).toInt = -99 := by decide +kernel
/-- where the second pump can't help any more -/
theorem sec_noM {h : HS} (I : IL h) (J : IB h) {p nP : Nat} (hp : p < 6) (hnP : nP ≤ 6) (e39 : gI h 0 39 = nI nP) (PP : ∀ q, q < nP → pmp h q) {d : Int32} (hd : 0 ≤ d ∧ d ≤ 600) {v2 m : Int32} (hm : -99 ≤ m.toInt ∧ m.toInt ≤ 99) (K47 : Int32 → Int32 → Int32 → Int32 → Int32 → Int32 → Int32 → Int32 → HS → Option (Int32 × HS)) (K60 : Int32 → Int32 → Int32 → Int32 → Int32 → Int32 → Int32 → Int32 → Int32 → HS → Option (Int32 × HS)) (v3 v4 v5 v6 v7 : Int32) (hv : v3.toInt = m.toInt.natAbs) :
    ∀ (k q : Nat) (h' : HS), q + k = nP → exQ h h' → ∀ n, k < n → ∃ h'', fX12_trim_145 K47 K60 n d v2 v3 v4 v5 v6 v7 (nI p) m (nI q) h' = fX12_trim_280 K47 K60 d v2 v3 v4 v5 v6 v7 (nI p) m h'' ∧ exQ h h'' := by
  intro k
  induction k with
  | zero =>
    intro q h' hq ex n hn
    obtain ⟨n', rfl⟩ := fuel1 hn
    refine ⟨h', ?_, ex⟩
    rw [fX12_trim_145, ex.1 0 39 (by decide) (by decide), e39, if_pos (nI_le (by omega) (by omega))]
  | succ k ih =>
    intro q h' hq ex n hn
    obtain ⟨n', rfl⟩ := fuel1 hn
    rw [fX12_trim_145, ex.1 0 39 (by decide) (by decide), e39, if_neg (nI_ge (by omega) (by omega))]
    have g20 : gI h' 20 q = gI h 20 q := ex.1 20 q (by decide) (by omega)
    by_cases c : q = p ∨ (¬ v2 = 0 ∧ gI h' 20 q = 0)
    · rw [skipM (by omega) c K47 K60 _ v3 v4 v5 v6 v7 199 (-99) (by rw [m99]; omega) (by rw [m99]; omega) FU (FU_gt (by omega))]
      exact ih (q + 1) h' (by omega) ex n' (by omega)
    · have c' : v2 = 0 ∨ ¬ gI h 20 q = 0 := by
        by_cases z : v2 = 0
        · exact Or.inl z
        · exact Or.inr (fun y => c (Or.inr ⟨z, by rw [g20]; exact y⟩))
      obtain ⟨h'', w3, w4, w5, w6, w7, r1, r2, r3⟩ := inM I J hp (PP q (by omega)) (fun z => c (Or.inl z)) hd c' hm K47 K60 (fX12_trim_145 K47 K60 n') 199 (-99) h' v3 v4 v5 v6 v7 (by rw [m99]; omega) (by rw [m99]; omega) ex (Or.inr (by omega)) FU (FU_gt (by omega))
      rcases r3 with ⟨rfl, rfl, rfl, rfl, rfl, -⟩ | ⟨k1, -, -, -, -, -, -, -, -, x9, -⟩
      · rw [r1]
        exact ih (q + 1) h'' (by omega) r2 n' (by omega)
      · omega
theorem RR_g {h' : HS} (s : ∀ b j, ¬ b = 44 → ¬ (b = 6 ∧ 8 ≤ j) → gI h' b j = gI hc b j) (H : RR hc hm) : RR h' hm := RR_6 (fun b j z1 z2 _ => s b j z2 z1) H
/-- the second pump on both sides -/
theorem sec_both {h : HS} (I : IL h) (J : IB h) {p nP : Nat} (hp : p < 6) (hnP : nP ≤ 6) (e39 : gI h 0 39 = nI nP) (PP : ∀ q, q < nP → pmp h q) {d : Int32} (hd : 0 ≤ d ∧ d ≤ 600) (nb : ¬ Bm h d) {v2 m : Int32} (hm : -99 ≤ m.toInt ∧ m.toInt ≤ 99) (K47 : Int32 → Int32 → Int32 → Int32 → Int32 → Int32 → Int32 → Int32 → HS → Option (Int32 × HS)) (K60 : Int32 → Int32 → Int32 → Int32 → Int32 → Int32 → Int32 → Int32 → Int32 → HS → Option (Int32 × HS)) :
    ∀ (k q : Nat) (hc h' : HS) (v3 v4 v5 v6 v7 : Int32), q + k = nP → RR hc (pI h' 0 24 0) → exQ h h' → TS hc v3 v4 v5 v6 v7 → gI hc 6 9 = Hm h d → gI hc 6 10 = Mm h → gI hc 6 11 = Tm h → ∀ n n2, k < n → k < n2 → ∃ hc' h'' w3 w4 w5 w6 w7, fX5_considerFirst_63 n (nI p) m v2 (iabs m) (nI q) hc = some hc' ∧ fX12_trim_145 K47 K60 n2 d v2 v3 v4 v5 v6 v7 (nI p) m (nI q) h' = fX12_trim_280 K47 K60 d v2 w3 w4 w5 w6 w7 (nI p) m h'' ∧ exQ h h'' ∧ TS hc' w3 w4 w5 w6 w7 ∧ (∀ b j, ¬ b = 44 → ¬ (b = 6 ∧ 8 ≤ j) → gI hc' b j = gI hc b j) ∧ RR hc' (pI h'' 0 24 0) := by
  intro k
  induction k with
  | zero =>
    intro q hc h' v3 v4 v5 v6 v7 hq H ex T f1 f2 f3 n n2 hn hn2
    obtain ⟨n', rfl⟩ := fuel1 hn
    obtain ⟨n2', rfl⟩ := fuel1 hn2
    have g39 : gI hc 6 3 = nI nP := by
      rw [H.1.2.2.2.2.2.1.1, gI_pI, if_neg (by decide), ex.1 0 39 (by decide) (by decide), e39]
    refine ⟨hc, h', v3, v4, v5, v6, v7, ?_, ?_, ex, T, fun _ _ _ _ => rfl, H⟩
    · rw [fX5_considerFirst_63, g39, if_pos (nI_le (by omega) (by omega))]
    · rw [fX12_trim_145, ex.1 0 39 (by decide) (by decide), e39, if_pos (nI_le (by omega) (by omega))]
  | succ k ih =>
    intro q hc h' v3 v4 v5 v6 v7 hq H ex T f1 f2 f3 n n2 hn hn2
    obtain ⟨n', rfl⟩ := fuel1 hn
    obtain ⟨n2', rfl⟩ := fuel1 hn2
    have g39 : gI hc 6 3 = nI nP := by
      rw [H.1.2.2.2.2.2.1.1, gI_pI, if_neg (by decide), ex.1 0 39 (by decide) (by decide), e39]
    have exg : exP h' (pI h' 0 24 0) := fun b j _ z2 => by rw [gI_pI, if_neg z2]
    have exh : exP h (pI h' 0 24 0) := exP_t ex.1 exg
    have g20 : gI h' 20 q = gI h 20 q := ex.1 20 q (by decide) (by omega)
    have g43 : gI hc 43 q = gI h 20 q := by
      rw [H.1.2.2.2.2.2.1.2.2.2.2 q, gI_pI, if_neg (by omega), g20]
    have hq6 : q < 6 := by omega
    rw [fX5_considerFirst_63, g39, if_neg (nI_ge (by omega) (by omega)), fX12_trim_145, ex.1 0 39 (by decide) (by decide), e39, if_neg (nI_ge (by omega) (by omega)), inb_n hq6 (by omega), ck_t, nI_clamp (by omega), g43]
    simp only [nm_e1, nI_1]
    by_cases c : q = p ∨ (¬ v2 = 0 ∧ gI h 20 q = 0)
    · rw [skipM hq6 (by rw [g20]; exact c) K47 K60 _ v3 v4 v5 v6 v7 199 (-99) (by rw [m99]; omega) (by rw [m99]; omega) FU (FU_gt (by omega))]
      have r := ih (q + 1) hc h' v3 v4 v5 v6 v7 (by omega) H ex T f1 f2 f3 n' n2' (by omega) (by omega)
      by_cases c1 : nI q = nI p
      · rw [if_pos c1]; exact r
      · rcases c with z | ⟨z1, z2⟩
        · exact absurd (by rw [z]) c1
        · rw [if_neg c1, if_pos z2, if_neg z1]; exact r
    · have c' : v2 = 0 ∨ ¬ gI h 20 q = 0 := by
        by_cases z : v2 = 0
        · exact Or.inl z
        · exact Or.inr (fun y => c (Or.inr ⟨z, y⟩))
      have cne : ¬ q = p := fun z => c (Or.inl z)
      have hv3 : v3.toInt = -2 ∨ (0 ≤ v3.toInt ∧ v3.toInt ≤ 198) := by
        rcases T with ⟨t, -⟩ | ⟨t, -⟩
        · exact Or.inl t
        · exact Or.inr t
      obtain ⟨h'', w3, w4, w5, w6, w7, r1, r2, r3⟩ := inM I J hp (PP q (by omega)) cne hd c' hm K47 K60 (fX12_trim_145 K47 K60 n2') 199 (-99) h' v3 v4 v5 v6 v7 (by rw [m99]; omega) (by rw [m99]; omega) ex hv3 FU (FU_gt (by omega))
      rw [r1, if_neg (fun z => cne ((nI_eq (by omega) (by omega)).mp z))]
      have q93 : ∀ X Y : Option HS, (if gI h 20 q = 0 then (if v2 = 0 then X else Y) else X) = X := by
        intro X Y
        by_cases z : gI h 20 q = 0
        · rw [if_pos z, if_pos (c'.resolve_right (fun y => y z))]
        · rw [if_neg z]
      rw [q93]
      unfold fX5_considerFirst_93
      simp only [nm_e1, nI_1]
      obtain ⟨e1, e2, e3, e4, e5⟩ := exP_pmp exh (PP q (by omega))
      obtain ⟨-, -, -, x4, x5, x6, -, -⟩ := exP_M exh
      obtain ⟨hc1, r, a1, a2, a3, a4⟩ := few_C H e1 e2 e3 e5 (d := d) (by rw [f1, x4]) (by rw [f2, x5]) (by rw [f3, x6]) (fun z => VV_0 I J hd nb ((exP_VV exh q d 0).mp z))
      have H1 := RR_L a2 H
      -- the model's state, over again
      have ex2g : exP (pI h' 0 24 0) (pI h'' 0 24 0) := fun b j z1 z2 => by rw [gI_pI, if_neg z2, gI_pI, if_neg z2, r2.1 b j z1 z2, ex.1 b j z1 z2]
      have H1' : RR hc1 (pI h'' 0 24 0) := RR_exP ex2g (by rw [gI_pI, if_pos ⟨rfl, rfl⟩]) H1
      have oI := onlyS_I a2
      rw [a1, bd_s]
      have t1 := iabs_i hm
      rw [m99] at r3
      have rng99 : ∀ j, VVi h q d j → -99 ≤ j ∧ j ≤ 99 := fun j hj => hj.1
      have n0 : ∀ j, VVi h q d j → ¬ j = 0 := fun j hj z => VV_0 I J hd nb (by rw [← z]; exact hj)
      have T1 : TS hc1 v3 v4 v5 v6 v7 := TS_cg (fun b j _ => oI b j) T
      by_cases cr : r = 0
      · rw [if_pos cr]
        have nv : ∀ j, ¬ VVi h q d j := fun j hj => a3 cr j ((exP_VV exh q d j).mpr hj)
        rcases r3 with ⟨rfl, rfl, rfl, rfl, rfl, -⟩ | ⟨k1, -, -, z, -⟩
        · obtain ⟨hc', h3, y3, y4, y5, y6, y7, s1, s2, s3, s4, s5, s6⟩ := ih (q + 1) hc1 h'' _ _ _ _ _ (by omega) H1' r2 T1 (by rw [oI]; exact f1) (by rw [oI]; exact f2) (by rw [oI]; exact f3) n' n2' (by omega) (by omega)
          exact ⟨hc', h3, y3, y4, y5, y6, y7, s1, s2, s3, s4, fun b j z1 z2 => (s5 b j z1 z2).trans (oI b j), s6⟩
        · exact absurd z (nv _)
      · rw [if_neg cr]
        obtain ⟨g1, g2⟩ := a4 cr
        rw [exP_VV exh] at g1
        have rr := rng99 _ g1
        have t2 := iabs_i rr
        have tS : (iabs m + iabs r).toInt = (m.toInt.natAbs : Int) + r.toInt.natAbs := by rw [fb_addI9 (by omega) (by omega), t1, t2]
        have att := TS_att T1 (x := (m.toInt.natAbs : Int) + r.toInt.natAbs) (by omega)
        by_cases cm : gI hc1 6 8 ≤ iabs m + iabs r
        · rw [if_pos cm]
          have cm' := i32_le.mp cm
          rcases r3 with ⟨rfl, rfl, rfl, rfl, rfl, -⟩ | ⟨k1, z1, z2, z3, z4, z5, z6, z7, z8, z9, z10⟩
          · obtain ⟨hc', h3, y3, y4, y5, y6, y7, s1, s2, s3, s4, s5, s6⟩ := ih (q + 1) hc1 h'' _ _ _ _ _ (by omega) H1' r2 T1 (by rw [oI]; exact f1) (by rw [oI]; exact f2) (by rw [oI]; exact f3) n' n2' (by omega) (by omega)
            exact ⟨hc', h3, y3, y4, y5, y6, y7, s1, s2, s3, s4, fun b j z1 z2 => (s5 b j z1 z2).trans (oI b j), s6⟩
          · have := z10 r.toInt (by omega) (by omega) (n0 _ g1) g1
            have g3 := (g2 k1.toInt ((exP_VV exh q d _).mpr z3)).1
            have e : k1.toInt.natAbs = r.toInt.natAbs := by omega
            rw [e] at z9
            have := att.mp z9
            omega
        · rw [if_neg cm]
          have cm' : ¬ (gI hc1 6 8).toInt ≤ (iabs m + iabs r).toInt := fun z => cm (i32_le.mpr z)
          have hatt := att.mpr (by omega)
          rcases r3 with ⟨-, -, -, -, -, z⟩ | ⟨k1, z1, z2, z3, z4, z5, z6, z7, z8, z9, z10⟩
          · exact absurd hatt (z r.toInt (by omega) (by omega) (n0 _ g1) g1)
          · have q1 := z10 r.toInt (by omega) (by omega) (n0 _ g1) g1
            obtain ⟨q2, q3⟩ := g2 k1.toInt ((exP_VV exh q d _).mpr z3)
            have ek : k1 = r := Int32.toInt_inj.mp (q3 (by omega))
            subst ek
            obtain ⟨hc2, n1, n2, n3, n4, n5, n6, n7, n8, n9⟩ := e_note (nI p) m (nI q) k1 hc1
            have nq : ¬ nI q = (-1 : Int32) := fun z => m1_ne (by omega) z.symm
            have T2 : TS hc2 w3 w4 w5 w6 w7 := by
              refine Or.inr ⟨by omega, ?_, by rw [z5]; exact n4, by rw [z6]; exact n5, Or.inr ⟨by rw [z7]; exact nq, by rw [n8, if_neg nq], by rw [z7]; exact n6, by rw [z8]; exact n7⟩⟩
              apply Int32.toInt_inj.mp
              rw [n9, tS, z4]
            have H2 : RR hc2 (pI h'' 0 24 0) := RR_g n2 H1'
            rw [n1, bv_s]
            obtain ⟨hc', h3, y3, y4, y5, y6, y7, s1, s2, s3, s4, s5, s6⟩ := ih (q + 1) hc2 h'' _ _ _ _ _ (by omega) H2 r2 T2 (by rw [n3 9 (by decide) (by decide), oI]; exact f1) (by rw [n3 10 (by decide) (by decide), oI]; exact f2) (by rw [n3 11 (by decide) (by decide), oI]; exact f3) n' n2' (by omega) (by omega)
            exact ⟨hc', h3, y3, y4, y5, y6, y7, s1, s2, s3, s4, fun b j z1 z2 => ((s5 b j z1 z2).trans (n2 b j z1 z2)).trans (oI b j), s6⟩
end TRK
