section RIS
variable {hc hm : HS}
def cF (has : Nat → Int32) (d : Int32) (b : Nat) : Nat → Int32 := fun i => if btP (nI b) i = 0 then 0 else afI (has i) d
def hF (has : Nat → Int32) (b : Nat) : Nat → Int32 := fun i => if btP (nI b) i = 0 then 0 else has i
theorem l_airAll {h : HS} {N : Nat} (hN : N ≤ 15) (e : gI h 2 8 = nI N) (b : Nat) (d : Int32) : ∀ (k i : Nat), i + k = N → ∀ (n : Nat), k < n → ∀ s : Int32, fX11_airForAll_5 n (nI b) d s (nI i) h = some (s + sR (cF (gI h 30) d b) i k, h) := by
  intro k
  induction k with
  | zero =>
    intro i hi n hn s
    obtain ⟨m, rfl⟩ := fuel1 hn
    rw [fX11_airForAll_5, e, if_pos (nI_le (by omega) (by omega))]
    simp [sR]
  | succ k ih =>
    intro i hi n hn s
    obtain ⟨m, rfl⟩ := fuel1 hn
    rw [fX11_airForAll_5, e, if_neg (nI_ge (by omega) (by omega)), show (nI b >>> (nI i &&& 31)) &&& 1 = btP (nI b) i from rfl]
    unfold fX11_airForAll_45 fX11_airFor
    simp only [inb_n (show i < 15 by omega) (by omega), ck_t, nm_e1, nI_clamp (show i < 2 ^ 31 by omega), nI_1, bd_s, ih (i + 1) (by omega) m (by omega), sR]
    rw [show cF (gI h 30) d b i = if btP (nI b) i = 0 then 0 else afI (gI h 30 i) d from rfl]
    by_cases c : btP (nI b) i = 0
    · rw [if_pos c, if_pos c, Int32.add_assoc]
    · rw [if_neg c, if_neg c, Int32.add_assoc]
      rfl
theorem l_haveAll {h : HS} {N : Nat} (hN : N ≤ 15) (e : gI h 2 8 = nI N) (b : Nat) : ∀ (k i : Nat), i + k = N → ∀ (n : Nat), k < n → ∀ s : Int32, fX11_tanksHave_4 n (nI b) s (nI i) h = some (s + sR (hF (gI h 30) b) i k, h) := by
  intro k
  induction k with
  | zero =>
    intro i hi n hn s
    obtain ⟨m, rfl⟩ := fuel1 hn
    rw [fX11_tanksHave_4, e, if_pos (nI_le (by omega) (by omega))]
    simp [sR]
  | succ k ih =>
    intro i hi n hn s
    obtain ⟨m, rfl⟩ := fuel1 hn
    rw [fX11_tanksHave_4, e, if_neg (nI_ge (by omega) (by omega)), show (nI b >>> (nI i &&& 31)) &&& 1 = btP (nI b) i from rfl]
    unfold fX11_tanksHave_37
    simp only [inb_n (show i < 15 by omega) (by omega), ck_t, nm_e1, nI_clamp (show i < 2 ^ 31 by omega), nI_1, ih (i + 1) (by omega) m (by omega), sR]
    rw [show hF (gI h 30) b i = if btP (nI b) i = 0 then 0 else gI h 30 i from rfl]
    by_cases c : btP (nI b) i = 0
    · rw [if_pos c, if_pos c, Int32.add_assoc]
    · rw [if_neg c, if_neg c, Int32.add_assoc]
theorem l_rise63 {h : HS} {N : Nat} (hN : N ≤ 15) (e : gI h 0 0 = nI N) (K : Int32 → Int32 → Int32 → Int32 → Int32 → HS → Option (Int32 × HS)) (b : Nat) (v1 d B C : Int32) : ∀ (k i : Nat), i + k = N → ∀ (n : Nat), k < n → ∀ v6 v7 : Int32, fX12_rise_63 K n v1 d B C (nI b) v6 v7 (nI i) h = fX12_rise_63 K 1 v1 d B C (nI b) (v6 + sR (cF (gI h 5) d b) i k) (v7 - sR (hF (gI h 5) b) i k) (nI N) h := by
  intro k
  induction k with
  | zero =>
    intro i hi n hn v6 v7
    obtain ⟨m, rfl⟩ := fuel1 hn
    rw [show i = N by omega, fX12_rise_63, fX12_rise_63, e, if_pos (nI_le (by omega) (by omega)), if_pos (nI_le (by omega) (by omega))]
    simp only [sR, Int32.add_zero, Int32.sub_zero]
  | succ k ih =>
    intro i hi n hn v6 v7
    obtain ⟨m, rfl⟩ := fuel1 hn
    rw [fX12_rise_63, e, if_neg (nI_ge (by omega) (by omega)), e_has, bd_s, if10s]
    unfold fX12_airFor
    simp only [inb_n (show i < 15 by omega) (by omega), ck_t, nm_e1, nI_clamp (show i < 2 ^ 31 by omega), nI_1, bd_s, ih (i + 1) (by omega) m (by omega), sR]
    rw [show cF (gI h 5) d b i = if btP (nI b) i = 0 then 0 else afI (gI h 5 i) d from rfl, show hF (gI h 5) b i = if btP (nI b) i = 0 then 0 else gI h 5 i from rfl]
    by_cases c : btP (nI b) i = 0
    · rw [if_neg (fun z => btP_n0.mp z c), if_pos c, if_pos c, Int32.zero_add, Int32.zero_add]
    · rw [if_pos (btP_n0.mpr c), if_neg c, if_neg c]
      congr 1
      · rw [← Int32.add_assoc]; rfl
      · grind
/-- whether a set is better than the best one -/
def lessV (b : Nat) (c B C : Int32) : Int32 := if B = -1 then 1 else if c = C then (if nI (popN 15 B.toNatClampNeg) ≤ nI (popN 15 b) then 0 else 1) else (if C ≤ c then 0 else 1)
def bOK (B : Int32) : Prop := B = -1 ∨ ∃ b, b < 2 ^ 15 ∧ B = nI b
theorem e_less {b : Nat} {B : Int32} (hb : b < 2 ^ 15) (hB : bOK B) (c C : Int32) (h : HS) : fX11_isLess (nI b) c B C h = some (lessV b c B C, h) := by
  unfold fX11_isLess fX11_isLess_10 fX11_isLess_20 lessV
  by_cases z : B = -1
  · rw [if_pos z, if_pos z, if_pos z]
  · rcases hB with y | ⟨b2, h2, rfl⟩
    · exact absurd y z
    · rw [if_neg z, if_neg z, if_neg z, e_bc hb, bd_s, e_bc h2, bd_s, nI_clamp (by omega)]
      repeat (first | rfl | split)
theorem op_rise (H : RR hc hm) (p1 p2 : Int32) : OK2 (fX11_rise p1 p2 hc) (fX12_rise p1 p2 hm) := by
  have H2 := RR_thrown 0 H
  have h15 := RR_15 H
  obtain ⟨T, a1, a2, a3, a4⟩ := e_are H2 p1
  have ebc : ∃ bc, fJ6_bitCount_0f7a4 p1 hc = some (bc, hc) := ⟨_, rfl⟩
  obtain ⟨bc, hbc⟩ := ebc
  simp only [fX11_rise, fX12_rise, nm_e1, hbc, a1, bd_s, f_isDepthC, f_isDepthM, f_between, if10s]
  rcases a2 with rfl | rfl
  · rw [a3 rfl 8, bd_s, if_pos rfl, if_pos rfl]
    exact OK2_c H2
  · obtain ⟨P, P0, P1, rfl, P3, a5⟩ := a4 rfl
    have eN2 : nLd (pI hm 0 22 0) = nLd hm := rfl
    have hp : 2 ^ nLd hm ≤ 2 ^ 15 := Nat.pow_le_pow_right (by decide) h15
    rw [eN2] at P1
    have P15 : P < 2 ^ 15 := by omega
    rw [e_bc P15] at hbc
    cases hbc
    rw [a5 8, bd_s]
    simp only [show ¬ (1 : Int32) = 0 by decide, if_false, if10s]
    have hpop := popN_le 15 P
    -- how many there are
    have hpop1 : 1 ≤ popN 15 P := by
      by_cases c : 1 ≤ popN 15 P
      · exact c
      · have h0 : popN 15 P = 0 := by omega
        obtain ⟨r, r1, r2⟩ := pd_surj 15 P P P15 (Nat.and_self P)
        rw [h0, Nat.pow_zero] at r1
        rw [show r = 0 by omega, pd_0] at r2
        omega
    have ec : (1 ≤ nI (popN 15 P) ∧ nI (popN 15 P) ≤ 8) ↔ nI (popN 15 P) ≤ 8 := ⟨fun z => z.2, fun z => ⟨by rw [show (1 : Int32) = nI 1 by decide]; exact nI_le hpop1 (by omega), z⟩⟩
    simp only [ec]
    refine OK2_if (fun c8 => OK2_if (fun c1 => ?_) (fun _ => OK2_c H2)) (fun _ => OK2_c H2)
    have q8 : popN 15 P ≤ 8 := by
      rw [show (8 : Int32) = nI 8 by decide, nI_leI (by omega) (by omega)] at c8
      exact c8
    have hq8 : 2 ^ popN 15 P ≤ 2 ^ 8 := Nat.pow_le_pow_right (by decide) q8
    have hq0 : 0 < 2 ^ popN 15 P := Nat.pow_pos (by decide)
    rw [e_heavyC (RR_VNc H) (RR_VYc H), bd_s, RR_Hc H]
    have HR := H_rng H.2.1.1 H.2.1.2.1 p2 c1
    have ai : gI hc 1 6 = gI hm 0 15 := H.1.2.1.2.2.2.2.2.2.2.2.2.1
    have ar : 0 ≤ (gI hm 0 15).toInt ∧ (gI hm 0 15).toInt ≤ 99999 := H.2.1.2.1.2.2.2.2.2.2.2.2.2.2
    -- the numbers of a set
    have e30 : gI hc 30 = gI hm 5 := funext H.1.1.2.2.2.2.2
    have cR : ∀ b, 0 ≤ (sR (cF (gI hm 5) p2 b) 0 (nLd hm)).toInt ∧ (sR (cF (gI hm 5) p2 b) 0 (nLd hm)).toInt ≤ (nLd hm : Int) * 60940 := fun b => by
      have := sR_rng (f := cF (gI hm 5) p2 b) (lo := 0) (hi := 60940) (by omega) (by omega) (by omega) (by omega) (nLd hm) 0 h15 (fun j _ hj => by
        obtain ⟨-, -, -, x1, x2, x3⟩ := H.2.1.1.2 j (by omega)
        show 0 ≤ (if btP (nI b) j = 0 then 0 else afI (gI hm 5 j) p2).toInt ∧ (if btP (nI b) j = 0 then 0 else afI (gI hm 5 j) p2).toInt ≤ 60940
        split
        · rw [i32_z]; omega
        · exact af_rng (by omega) c1)
      omega
    have vR : ∀ b, 0 ≤ (sR (hF (gI hm 5) b) 0 (nLd hm)).toInt ∧ (sR (hF (gI hm 5) b) 0 (nLd hm)).toInt ≤ (nLd hm : Int) * 999 := fun b => by
      have := sR_rng (f := hF (gI hm 5) b) (lo := 0) (hi := 999) (by omega) (by omega) (by omega) (by omega) (nLd hm) 0 h15 (fun j _ hj => by
        obtain ⟨-, -, -, x1, x2, x3⟩ := H.2.1.1.2 j (by omega)
        show 0 ≤ (if btP (nI b) j = 0 then 0 else gI hm 5 j).toInt ∧ (if btP (nI b) j = 0 then 0 else gI hm 5 j).toInt ≤ 999
        split
        · rw [i32_z]; omega
        · omega)
      omega
    have z0 : ∀ i, i ≤ 15 → btP (nI 0) i = 0 := fun i hi => by rw [btP_n (by omega) hi, Nat.zero_div]; exact nI_0
    have sz : ∀ (f : Nat → Int32) (k i : Nat), (∀ j, i ≤ j → j < i + k → f j = 0) → sR f i k = 0 := by
      intro f k
      induction k with
      | zero => intro i _; rfl
      | succ k ih => intro i hf; rw [sR, hf i (by omega) (by omega), ih (i + 1) (fun j h1 h2 => hf j (by omega) (by omega))]; rfl
    have c0 : sR (cF (gI hm 5) p2 0) 0 (nLd hm) = 0 := sz _ _ _ (fun j _ hj => by show (if btP (nI 0) j = 0 then (0 : Int32) else _) = 0; rw [if_pos (z0 j (by omega))])
    have v0 : sR (hF (gI hm 5) 0) 0 (nLd hm) = 0 := sz _ _ _ (fun j _ hj => by show (if btP (nI 0) j = 0 then (0 : Int32) else _) = 0; rw [if_pos (z0 j (by omega))])
    generalize hcs : (fun b => sR (cF (gI hm 5) p2 b) 0 (nLd hm)) = cs
    generalize hvs : (fun b => sR (hF (gI hm 5) b) 0 (nLd hm)) = vs
    have ecs : ∀ b, sR (cF (gI hm 5) p2 b) 0 (nLd hm) = cs b := fun b => by rw [← hcs]
    have evs : ∀ b, sR (hF (gI hm 5) b) 0 (nLd hm) = vs b := fun b => by rw [← hvs]
    simp only [ecs] at cR c0
    simp only [evs] at vR v0
    have eA : ∀ b, fX11_airForAll (nI b) p2 hc = some (cs b, hc) := fun b => by
      unfold fX11_airForAll
      rw [nI_z0 (fun z => fX11_airForAll_5 FU (nI b) p2 0 z hc), l_airAll h15 (RR_eC H) b p2 (nLd hm) 0 (by omega) FU (FU_gt (by omega)), e30, ecs, Int32.zero_add]
    have eV : ∀ b, fX11_tanksHave (nI b) hc = some (vs b, hc) := fun b => by
      unfold fX11_tanksHave
      rw [nI_z0 (fun z => fX11_tanksHave_4 FU (nI b) 0 z hc), l_haveAll h15 (RR_eC H) b (nLd hm) 0 (by omega) FU (FU_gt (by omega)), e30, evs, Int32.zero_add]
    -- one set on each side
    have stC : ∀ (b r n : Nat) (B C : Int32), b < 2 ^ 15 → bOK B → r < 2 ^ popN 15 P → fX11_rise_54 (n + 1) (nI P) p2 (nI (popN 15 P)) (Hm hm p2) B C (nI b) (nI r) hc = if ¬ gI hm 0 15 < cs b ∧ ¬ vs b ≤ Hm hm p2 ∧ ¬ lessV b (cs b) B C = 0 then fX11_rise_54 n (nI P) p2 (nI (popN 15 P)) (Hm hm p2) (nI b) (cs b) ((nI b - nI P) &&& nI P) (nI (r + 1)) hc else fX11_rise_54 n (nI P) p2 (nI (popN 15 P)) (Hm hm p2) B C ((nI b - nI P) &&& nI P) (nI (r + 1)) hc := by
      intro b r n B C hb hB hr
      have hs2 : ((nI (popN 15 P) &&& 31).toBitVec.smod 32).toNat = popN 15 P := by
        have : ∀ k : Fin 16, ((nI k.val &&& 31).toBitVec.smod 32).toNat = k.val := by decide +kernel
        exact this ⟨popN 15 P, by omega⟩
      rw [fX11_rise_54, show (1 : Int32) = nI 1 by decide, pk_shlN _ _ hs2 (by omega), Nat.one_mul, if_neg (nI_ge hr (by omega)), eA, bd_s, eV, ai]
      unfold fX11_rise_116
      rw [bd_s, e_less hb hB, bd_s]
      simp only [nm_e1, nI_1]
      by_cases x1 : gI hm 0 15 < cs b
      · rw [if_pos x1, if_neg (fun z => z.1 x1)]
      · rw [if_neg x1]
        by_cases x2 : vs b ≤ Hm hm p2
        · rw [if_pos x2, if_neg (fun z => z.2.1 x2)]
        · rw [if_neg x2]
          by_cases x3 : lessV b (cs b) B C = 0
          · rw [if_pos x3, if_neg (fun z => z.2.2 x3)]
          · rw [if_neg x3, if_pos ⟨x1, x2, x3⟩]
    have stM : ∀ (b n : Nat) (B C : Int32), b < 2 ^ 15 → bOK B → b ≤ P → b &&& P = b → fX12_rise_32 (n + 1) (nI P) p2 B C (nI b) (pI hm 0 22 0) = if ¬ gI hm 0 15 < cs b ∧ ¬ vs b ≤ Hm hm p2 ∧ ¬ lessV b (cs b) B C = 0 then fX12_rise_32 n (nI P) p2 (nI b) (cs b) (nI (b + 1)) (pI hm 0 22 0) else fX12_rise_32 n (nI P) p2 B C (nI (b + 1)) (pI hm 0 22 0) := by
      intro b n B C hb hB hbP hsub
      have g15 : gI (pI hm 0 22 0) 0 15 = gI hm 0 15 := by rw [gI_pI, if_neg (by decide)]
      have g5 : gI (pI hm 0 22 0) 5 = gI hm 5 := gI_pIr (by decide)
      have gH : Hm (pI hm 0 22 0) p2 = Hm hm p2 := rfl
      have vb := vR b
      have e7 : (Hm hm p2 - vs b).toInt = (Hm hm p2).toInt - (vs b).toInt := fb_subI9 (by omega) (by omega)
      have cv : (0 ≤ Hm hm p2 - vs b) ↔ vs b ≤ Hm hm p2 := by rw [i32_le, i32_le, e7, i32_z]; omega
      rw [fX12_rise_32, if_neg (nI_nlt hbP (by omega)), if_pos ((i_sub P15 hb).mpr hsub), e_heavyM (RR_VN H2) (RR_VY H2), bd_s, gH, nI_z0 (fun z => fX12_rise_63 (fX12_rise_32 n) FU (nI P) p2 B C (nI b) 0 (Hm hm p2) z (pI hm 0 22 0))]
      rw [l_rise63 (h := pI hm 0 22 0) (N := nLd hm) h15 (RR_eM H2) (fX12_rise_32 n) b (nI P) p2 B C (nLd hm) 0 (by omega) FU (FU_gt (by omega)), g5, ecs, evs, Int32.zero_add, fX12_rise_63, RR_eM H2, eN2, if_pos (nI_le (Nat.le_refl _) (by omega)), g15]
      unfold fX12_rise_170
      simp only [nm_e1, nI_1, cv]
      by_cases x2 : vs b ≤ Hm hm p2
      · rw [if_pos x2, if_neg (fun z => z.2.1 x2)]
      · rw [if_neg x2]
        by_cases x1 : gI hm 0 15 < cs b
        · rw [if_neg (Int32.not_le.mpr x1), if_neg (fun z => z.1 x1)]
        · rw [if_pos (Int32.not_lt.mp x1)]
          unfold lessV
          by_cases xB : B = -1
          · rw [if_pos xB, if_pos ⟨x1, x2, by rw [if_pos xB]; decide⟩]
          · rw [if_neg xB]
            simp only [if_neg xB]
            rcases hB with y | ⟨b2, h2, rfl⟩
            · exact absurd y xB
            · rw [e_bc hb, bd_s, e_bc h2, bd_s, nI_clamp (by omega)]
              by_cases y1 : cs b = C
              · have y2 : ¬ C < cs b := by rw [y1]; exact Int32.lt_irrefl
                rw [if_neg y2, if_pos y1]
                simp only [if_pos y1]
                by_cases y3 : nI (popN 15 b) < nI (popN 15 b2)
                · rw [if_pos y3, if_pos ⟨x1, x2, by rw [if_neg (Int32.not_le.mpr y3)]; decide⟩]
                · rw [if_neg y3, if_neg (fun z => z.2.2 (by rw [if_pos (Int32.not_lt.mp y3)]))]
              · simp only [if_neg y1]
                by_cases y2 : C < cs b
                · rw [if_pos y2, if_neg (fun z => z.2.2 (by rw [if_pos (Int32.le_of_lt y2)]))]
                · rw [if_neg y2]
                  have y4 : ¬ C ≤ cs b := fun z => y1 (Int32.le_antisymm (Int32.not_lt.mp y2) z)
                  rw [if_pos ⟨x1, x2, by rw [if_neg y4]; decide⟩]
    -- what lies between is passed over
    have skM : ∀ (t m n : Nat) (B C : Int32), m + t ≤ P + 1 → (∀ q, m ≤ q → q < m + t → ¬ q &&& P = q) → fX12_rise_32 (n + t) (nI P) p2 B C (nI m) (pI hm 0 22 0) = fX12_rise_32 n (nI P) p2 B C (nI (m + t)) (pI hm 0 22 0) := by
      intro t
      induction t with
      | zero => intro m n B C _ _; rfl
      | succ t ih =>
        intro m n B C hm1 hq
        rw [show n + (t + 1) = (n + t) + 1 by omega, fX12_rise_32, if_neg (nI_nlt (by omega) (by omega)), if_neg (fun z => hq m (by omega) (by omega) ((i_sub P15 (by omega)).mp z)), nm_e1, nI_1, ih (m + 1) n B C (by omega) (fun q h1 h2 => hq q (by omega) (by omega)), show m + 1 + t = m + (t + 1) by omega]
    -- the end
    have fin : ∀ (n m : Nat) (B C : Int32), bOK B → (Hm hm p2 < 0 → B = 0 ∧ C = 0) → ∀ b : Int32, OK2 (fX11_rise_54 (n + 1) (nI P) p2 (nI (popN 15 P)) (Hm hm p2) B C b (nI (2 ^ popN 15 P)) hc) (fX12_rise_32 (m + 1) (nI P) p2 B C (nI (P + 1)) (pI hm 0 22 0)) := by
      intro n m B C hB hI b
      have hs2 : ((nI (popN 15 P) &&& 31).toBitVec.smod 32).toNat = popN 15 P := by
        have : ∀ k : Fin 16, ((nI k.val &&& 31).toBitVec.smod 32).toNat = k.val := by decide +kernel
        exact this ⟨popN 15 P, by omega⟩
      have gH : Hm (pI hm 0 22 0) p2 = Hm hm p2 := rfl
      rw [fX11_rise_54, show (1 : Int32) <<< (nI (popN 15 P) &&& 31) = nI (2 ^ popN 15 P) by rw [show (1 : Int32) = nI 1 by decide, pk_shlN _ _ hs2 (by omega), Nat.one_mul], if_pos (nI_le (Nat.le_refl _) (by omega)), fX12_rise_32, if_pos (nI_lt (by omega) (by omega))]
      refine OK2_if (fun _ => OK2_c H2) (fun xB => ?_)
      rcases hB with y | ⟨b2, h2, rfl⟩
      · exact absurd y xB
      · rw [e_heavyM (RR_VN H2) (RR_VY H2), bd_s, gH]
        have e204 : (if 0 ≤ Hm hm p2 then fX12_rise_204 (nI b2) C (pI hm 0 22 0) else fX12_rise_204 0 0 (pI hm 0 22 0)) = fX12_rise_204 (nI b2) C (pI hm 0 22 0) := by
          by_cases y : 0 ≤ Hm hm p2
          · rw [if_pos y]
          · obtain ⟨y1, y2⟩ := hI (Int32.not_le.mp y)
            rw [if_neg y, y1, y2]
        rw [e204]
        unfold fX12_rise_204
        obtain ⟨hc1, hc2, hc3, hm2, hm3, t1, t2, t3, t4, t5, t6, -, t7, t8⟩ := tell2 H2 (nI b2) (gI hm 0 15 - C)
        have g15 : gI (pI hm 0 22 0) 0 15 = gI hm 0 15 := by rw [gI_pI, if_neg (by decide)]
        rw [t1, bv_s, t2, bv_s, (t7 1 6 (by decide) (by decide)).2.1, ai, t3, bv_s, nm_e1, t4, bv_s, (t8 0 15 (by decide) (by decide)).1, g15, t5, bv_s, e_bc h2, bd_s, e_bc h2, bd_s]
        exact OK2_c t6
    have inv : ∀ (r : Nat) (B C : Int32), (Hm hm p2 < 0 → (r = 0 ∧ B = -1) ∨ (B = 0 ∧ C = 0)) → ((¬ gI hm 0 15 < cs (pdep 15 P r) ∧ ¬ vs (pdep 15 P r) ≤ Hm hm p2 ∧ ¬ lessV (pdep 15 P r) (cs (pdep 15 P r)) B C = 0) → Hm hm p2 < 0 → nI (pdep 15 P r) = 0 ∧ cs (pdep 15 P r) = 0) ∧ (¬ (¬ gI hm 0 15 < cs (pdep 15 P r) ∧ ¬ vs (pdep 15 P r) ≤ Hm hm p2 ∧ ¬ lessV (pdep 15 P r) (cs (pdep 15 P r)) B C = 0) → Hm hm p2 < 0 → B = 0 ∧ C = 0) := by
      intro r B C hI
      refine ⟨fun tk hn => ?_, fun tk hn => ?_⟩
      · rcases hI hn with ⟨z1, -⟩ | ⟨rfl, rfl⟩
        · rw [z1, pd_0, c0]
          exact ⟨nI_0, rfl⟩
        · refine absurd ?_ tk.2.2
          have cb := (cR (pdep 15 P r)).1
          unfold lessV
          rw [if_neg (by decide)]
          by_cases y : cs (pdep 15 P r) = 0
          · rw [if_pos y, if_pos]
            rw [cl0, show popN 15 0 = 0 from rfl]
            have := popN_le 15 (pdep 15 P r)
            exact nI_le (by omega) (by omega)
          · rw [if_neg y, if_pos (i32_le.mpr (by rw [i32_z]; exact cb))]
      · rcases hI hn with ⟨z1, z2⟩ | z
        · refine absurd ?_ tk
          rw [z1, pd_0, c0, v0, z2]
          refine ⟨fun z => ?_, Int32.not_le.mpr hn, by unfold lessV; rw [if_pos rfl]; decide⟩
          have := i32_lt.mp z
          rw [i32_z] at this
          omega
        · exact z
    have key : ∀ (k r : Nat) (B C : Int32), r + k + 1 = 2 ^ popN 15 P → bOK B → (Hm hm p2 < 0 → (r = 0 ∧ B = -1) ∨ (B = 0 ∧ C = 0)) → ∀ n m, k + 1 < n → P + 1 - pdep 15 P r < m → OK2 (fX11_rise_54 n (nI P) p2 (nI (popN 15 P)) (Hm hm p2) B C (nI (pdep 15 P r)) (nI r) hc) (fX12_rise_32 m (nI P) p2 B C (nI (pdep 15 P r)) (pI hm 0 22 0)) := by
      intro k
      induction k with
      | zero =>
        intro r B C hr hB hI n m hn hm1
        obtain ⟨n', rfl⟩ := fuel1 hn
        obtain ⟨m', rfl⟩ := fuel1 hm1
        obtain ⟨i1, i2⟩ := inv r B C hI
        have hle := pd_le 15 P r
        have hbP : pdep 15 P r = P := by rw [show r = 2 ^ popN 15 P - 1 by omega]; exact pd_last 15 P P15
        rw [stC _ r n' B C (by omega) hB (by omega), stM _ m' B C (by omega) hB hle (pd_sub 15 P r)]
        obtain ⟨n2, rfl⟩ := fuel1 (show 0 < n' by omega)
        obtain ⟨m2, rfl⟩ := fuel1 (show 0 < m' by omega)
        rw [show r + 1 = 2 ^ popN 15 P by omega, show pdep 15 P r + 1 = P + 1 by omega]
        exact OK2_if (fun tk => fin n2 m2 _ _ (Or.inr ⟨_, by omega, rfl⟩) (i1 tk) _) (fun tk => fin n2 m2 _ _ hB (i2 tk) _)
      | succ k ih =>
        intro r B C hr hB hI n m hn hm1
        obtain ⟨n', rfl⟩ := fuel1 hn
        obtain ⟨m', rfl⟩ := fuel1 hm1
        obtain ⟨i1, i2⟩ := inv r B C hI
        have hle := pd_le 15 P (r + 1)
        have hlt := pd_mono 15 P r (r + 1) (by omega) (by omega)
        rw [stC _ r n' B C (by omega) hB (by omega), stM _ m' B C (by omega) hB (by omega) (pd_sub 15 P r), i_next P15 (by omega), pd_next 15 P r P15 (by omega)]
        obtain ⟨t, ht⟩ : ∃ t, t = pdep 15 P (r + 1) - (pdep 15 P r + 1) := ⟨_, rfl⟩
        obtain ⟨m2, rfl⟩ : ∃ m2, m' = m2 + t := ⟨m' - t, by omega⟩
        have sk : ∀ B C : Int32, fX12_rise_32 (m2 + t) (nI P) p2 B C (nI (pdep 15 P r + 1)) (pI hm 0 22 0) = fX12_rise_32 m2 (nI P) p2 B C (nI (pdep 15 P (r + 1))) (pI hm 0 22 0) := fun B C => by
          rw [skM t (pdep 15 P r + 1) m2 B C (by omega) (fun q h1 h2 => pd_gap P15 (show r + 1 < 2 ^ popN 15 P by omega) (by omega) (by omega)), show pdep 15 P r + 1 + t = pdep 15 P (r + 1) by omega]
        rw [sk, sk]
        exact OK2_if (fun tk => ih (r + 1) _ _ (by omega) (Or.inr ⟨_, by omega, rfl⟩) (fun z => Or.inr (i1 tk z)) n' m2 (by omega) (by omega)) (fun tk => ih (r + 1) _ _ (by omega) hB (fun z => Or.inr (i2 tk z)) n' m2 (by omega) (by omega))
    have k0 := key (2 ^ popN 15 P - 1) 0 (-1) 0 (by omega) (Or.inl rfl) (fun _ => Or.inl ⟨rfl, rfl⟩) FU FU (FU_gt (by omega)) (FU_gt (by omega))
    rw [pd_0, nI_0] at k0
    exact k0
end RIS
