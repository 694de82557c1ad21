section DVG
variable {hc hm : HS}
theorem imin_n {a b : Nat} (ha : a < 2 ^ 31) (hb : b < 2 ^ 31) : imin (nI a) (nI b) = nI (min a b) := by
  apply Int32.toInt_inj.mp
  rw [imin_toInt, nI_toInt ha, nI_toInt hb, nI_toInt (by omega)]
  omega
theorem isK_n (H : RR hc hm) {x k : Int32} (h : isK hm x k) : ∃ i, i < nLd hm ∧ x = nI i ∧ gI hm 1 i = k := h
theorem op_shot (H : RR hc hm) (p1 p2 p3 p4 p5 : Int32) : OK2 (fX11_shot p1 p2 p3 p4 p5 hc) (fX12_shot p1 p2 p3 p4 p5 hm) := by
  have H2 := RR_thrown 0 H
  have h15 := RR_15 H
  have d1 : ∀ x k : Int32, Decidable (isK hm x k) := fun _ _ => Classical.propDecidable _
  have d2 : ∀ x k : Int32, Decidable (isK (pI hm 0 22 0) x k) := fun _ _ => Classical.propDecidable _
  have g : ∀ b i, ¬ b = 0 → gI (pI hm 0 22 0) b i = gI hm b i := fun b i hb => by rw [gI_pI, if_neg (fun q => hb q.1)]
  simp only [fX11_shot, fX11_shot_50, fX11_shot_51, fX12_shot, nm_e1, e_isA H _ _ (d1 _ _), e_isOf H2 _ _ (d2 _ _), bd_s, if10s, f_between, f_in, if_true, show ¬ (1 : Int32) = 0 by decide, if_false]
  by_cases c1 : isK hm p1 3
  · rw [if_pos c1, if_pos ((isK_t 0 p1 3).mpr c1)]
    obtain ⟨i, hi, rfl, ki⟩ := c1
    simp only [inb_n (show i < 15 by omega) (by omega), ck_t, nI_clamp (show i < 2 ^ 31 by omega), H.1.1.2.2.2.2.2, g 5 _ (by decide)]
    by_cases c5 : isK hm p5 0
    · have c5' := (isK_t 0 p5 0).mpr c5
      simp only [if_pos c5, if_pos c5']
      obtain ⟨t, ht, rfl, kt⟩ := c5
      have hit : ¬ i = t := by
        rintro rfl
        rw [ki] at kt
        exact absurd kt (by decide)
      by_cases c3 : 0 ≤ p3 ∧ p3 ≤ 60
      · by_cases c4 : 1 ≤ p4 ∧ p4 ≤ 99
        · simp only [if_pos c3, if_pos c4]
          refine OK2_if (fun c2 => ?_) (fun _ => OK2_c H2)
          have hrC : fX4_room (nI t) hc = some (gI hm 4 t - gI hm 5 t, hc) := by
            unfold fX4_room
            rw [f_thereC (by omega) (RR_eC H), bd_s, if10s, if_pos (show ∃ a, a < nLd hm ∧ nI t = nI a from ⟨t, ht, rfl⟩)]
            simp only [inb_n (show t < 15 by omega) (by omega), ck_t, nI_clamp (show t < 2 ^ 31 by omega)]
            rw [H.1.1.2.2.2.2.1 t, H.1.1.2.2.2.2.2 t]
          have hrM : fX12_roomOf (nI t) (pI hm 0 22 0) = some (gI hm 4 t - gI hm 5 t, pI hm 0 22 0) := by
            unfold fX12_roomOf
            simp only [inb_n (show t < 15 by omega) (by omega), ck_t, nI_clamp (show t < 2 ^ 31 by omega)]
            rw [g 4 t (by decide), g 5 t (by decide)]
          rw [hrC, hrM, bd_s, bd_s]
          refine OK2_if (fun c6 => ?_) (fun _ => OK2_c H2)
          obtain ⟨-, -, -, x1, x2, x3⟩ := H.2.1.1.2 i hi
          obtain ⟨-, -, -, y1, y2, y3⟩ := H.2.1.1.2 t ht
          have t1 : (1 : Int32).toInt = 1 := by decide +kernel
          have t60 : (60 : Int32).toInt = 60 := by decide +kernel
          have t99 : (99 : Int32).toInt = 99 := by decide +kernel
          have a1 := i32_le.mp c2.1
          have a2 := i32_le.mp c2.2
          have a3 := i32_le.mp c6
          have e2 : (gI hm 4 t - gI hm 5 t).toInt = (gI hm 4 t).toInt - (gI hm 5 t).toInt := fb_subI9 (by omega) (by omega)
          obtain ⟨n, hn, en⟩ : ∃ n : Nat, (1 ≤ n ∧ n ≤ 999) ∧ p2 = nI n := ⟨p2.toInt.toNat, by omega, i32_eqI (by omega)⟩
          obtain ⟨la, hla, ela⟩ : ∃ n : Nat, n ≤ 60 ∧ p3 = nI n := ⟨p3.toInt.toNat, by have := rngI 0 60 c3; omega, i32_eqI (by have := rngI 0 60 c3; omega)⟩
          obtain ⟨ra, hra, era⟩ : ∃ n : Nat, (1 ≤ n ∧ n ≤ 99) ∧ p4 = nI n := ⟨p4.toInt.toNat, by have := rngI 1 99 c4; omega, i32_eqI (by have := rngI 1 99 c4; omega)⟩
          have hp2 : p2.toInt = n := by rw [en, nI_toInt (by omega)]
          -- the end of both
          have fin : ∀ v8 v9 v10 : Int32, OK2 (fX11_shot_185 (nI i) p2 (nI t) v8 v9 v10 hc) (ck (inb (nI i) 15) (ck (inb (nI i) 15) (nm (pI (pI hm 0 22 0) 5 (nI i).toNatClampNeg (gI (pI hm 0 22 0) 5 (nI i).toNatClampNeg - p2)) (fun h23 => ck (inb (nI t) 15) (ck (inb (nI t) 15) (nm (pI h23 5 (nI t).toNatClampNeg (gI h23 5 (nI t).toNatClampNeg + p2)) (fun h26 => nm (pI h26 0 21 0) (fun h28 => bv (fX12_tell v9 h28) (fun h29 => bv (fX12_tell v10 h29) (fun h30 => some (v8, h30))))))))))) := by
            intro v8 v9 v10
            unfold fX11_shot_185
            simp only [inb_n (show i < 15 by omega) (by omega), inb_n (show t < 15 by omega) (by omega), ck_t, nI_clamp (show i < 2 ^ 31 by omega), nI_clamp (show t < 2 ^ 31 by omega), nm_e1, H.1.1.2.2.2.2.2, g 5 _ (by decide)]
            rw [show gI (pI hc 30 i (gI hm 5 i - p2)) 30 t = gI hm 5 t by rw [gI_pI, if_neg (fun z => hit z.2.symm)]; exact H.1.1.2.2.2.2.2 t, show gI (pI (pI hm 0 22 0) 5 i (gI hm 5 i - p2)) 5 t = gI hm 5 t by rw [gI_pI, if_neg (fun z => hit z.2.symm), g 5 t (by decide)]]
            have HR : RR (pI (pI hc 30 i (gI hm 5 i - p2)) 30 t (gI hm 5 t + p2)) (pI (pI (pI hm 0 22 0) 5 i (gI hm 5 i - p2)) 5 t (gI hm 5 t + p2)) := by
              refine RR_has2 (onlyH_p (onlyH_p onlyH_r)) (onlyH_p (onlyH_p onlyH_r)) (fun k => ?_) (fun k hk => ?_) H2
              · simp only [gI_pI, H.1.1.2.2.2.2.2, true_and, if_neg (show ¬ (5 = 0 ∧ k = 22) by omega)]
              · obtain ⟨-, -, -, z1, z2, z3⟩ := H.2.1.1.2 k hk
                have e1 : (gI hm 5 i - p2).toInt = (gI hm 5 i).toInt - p2.toInt := fb_subI9 (by omega) (by omega)
                have e3 : (gI hm 5 t + p2).toInt = (gI hm 5 t).toInt + p2.toInt := fb_addI9 (by omega) (by omega)
                rw [g 4 k (by decide)]
                by_cases kt : k = t
                · subst kt
                  rw [gI_pI, if_pos ⟨rfl, rfl⟩]
                  omega
                · rw [gI_pI, if_neg (fun z => kt z.2)]
                  by_cases ki : k = i
                  · subst ki
                    rw [gI_pI, if_pos ⟨rfl, rfl⟩]
                    omega
                  · rw [gI_pI, if_neg (fun z => ki z.2), g 5 k (by decide)]
                    exact ⟨z1, z2⟩
            obtain ⟨hc1, hc2, hc3, hm2, hm3, b1, b2, b3, b4, b5, b6, -⟩ := tell2 HR v9 v10
            rw [b1, bv_s, b2, bv_s, b3, bv_s, b4, bv_s, b5, bv_s]
            exact OK2_c b6
          have wle : ∀ s, ra * (s - la) ≤ 99 * s := fun s => Nat.mul_le_mul hra.2 (Nat.sub_le s la)
          have key : ∀ (k s : Nat), s + k = la + n → ∀ f m, k < f → k < m → ∀ v9 v10 : Int32, OK2 (fX11_shot_105 f (nI i) p2 p3 p4 (nI t) (nI (min n (ra * (s - la)))) (nI s) v9 v10 hc) (fX12_shot_86 m (nI i) p2 p3 p4 (nI t) v9 v10 (nI s) (nI (min n (ra * (s - la)))) (pI hm 0 22 0)) := by
            intro k
            induction k with
            | zero =>
              intro s hs f m hf hm1 v9 v10
              obtain ⟨f', rfl⟩ := fuel1 hf
              obtain ⟨m', rfl⟩ := fuel1 hm1
              have hw : min n (ra * (s - la)) = n := by
                have : 1 * n ≤ ra * (s - la) := Nat.mul_le_mul hra.1 (by omega)
                omega
              rw [hw, fX11_shot_105, fX12_shot_86, en, if_pos (nI_le (Nat.le_refl n) (by omega)), if_pos (nI_le (Nat.le_refl n) (by omega)), ← en]
              exact fin (nI s) v9 v10
            | succ k ih =>
              intro s hs f m hf hm1 v9 v10
              obtain ⟨f', rfl⟩ := fuel1 hf
              obtain ⟨m', rfl⟩ := fuel1 hm1
              have ws := wle s
              have ws1 := wle (s + 1)
              by_cases cw : n ≤ min n (ra * (s - la))
              · rw [fX11_shot_105, fX12_shot_86, en, if_pos (nI_le cw (by omega)), if_pos (nI_le cw (by omega)), ← en]
                exact fin (nI s) v9 v10
              · have e1 : imax 0 (nI (s + 1) - nI la) = nI (s + 1 - la) := by
                  apply Int32.toInt_inj.mp
                  rw [imax_toInt, i32_z, fb_subI9 (by rw [nI_toInt (by omega), nI_toInt (by omega)]; omega) (by rw [nI_toInt (by omega), nI_toInt (by omega)]; omega), nI_toInt (by omega), nI_toInt (by omega), nI_toInt (by omega)]
                  omega
                have e3 : imin p2 (p4 * imax 0 (nI (s + 1) - p3)) = nI (min n (ra * (s + 1 - la))) := by
                  rw [ela, e1, era, pk_mul, en, imin_n (by omega) (by omega)]
                have gx : gI (pI hm 0 22 0) 2 t = gI hm 2 t := g 2 t (by decide)
                have gy : gI (pI hm 0 22 0) 2 i = gI hm 2 i := g 2 i (by decide)
                rw [fX11_shot_105, fX12_shot_86, if_neg (by rw [en]; exact nI_ge (by omega) (by omega)), if_neg (by rw [en, ela, nI_add]; exact nI_nlt (by omega) (by omega)), if_neg (by rw [en]; exact nI_ge (by omega) (by omega))]
                simp only [nm_e1, inb_n (show i < 15 by omega) (by omega), inb_n (show t < 15 by omega) (by omega), ck_t, nI_clamp (show i < 2 ^ 31 by omega), nI_clamp (show t < 2 ^ 31 by omega), nI_1, H.1.1.2.2.1, gx, gy, e3]
                have R := ih (s + 1) (by omega) f' m' (by omega) (by omega) (v9 + (p2 - nI (min n (ra * (s - la))))) (v10 + (gI hm 2 t * nI (min n (ra * (s - la))) - gI hm 2 i * p2))
                by_cases cl : nI (s + 1) ≤ p3
                · rw [if_pos cl]
                  rw [ela, nI_leI (by omega) (by omega)] at cl
                  rw [show s + 1 - la = 0 by omega, Nat.mul_zero, Nat.min_zero, nI_0] at R
                  rw [show s + 1 - la = 0 by omega, Nat.mul_zero, Nat.min_zero, nI_0]
                  exact R
                · rw [if_neg cl]
                  rw [ela, nI_leI (by omega) (by omega)] at cl
                  have e4 : imin p2 (nI (min n (ra * (s - la))) + p4) = nI (min n (ra * (s + 1 - la))) := by
                    have : ra * (s + 1 - la) = ra * (s - la) + ra := by rw [show s + 1 - la = (s - la) + 1 by omega, Nat.mul_succ]
                    rw [era, nI_add, en, imin_n (by omega) (by omega)]
                    congr 1
                    omega
                  rw [e4]
                  exact R
          have k0 := key (la + n) 0 (by omega) FU FU (FU_gt (by omega)) (FU_gt (by omega)) 0 0
          rw [Nat.zero_sub, Nat.mul_zero, Nat.min_zero, nI_0] at k0
          exact k0
        · simp only [if_pos c3, if_neg c4]
          repeat (first | exact OK2_c H2 | split)
      · simp only [if_neg c3]
        repeat (first | exact OK2_c H2 | split)
    · have c5' : ¬ isK (pI hm 0 22 0) p5 0 := fun z => c5 ((isK_t 0 p5 0).mp z)
      simp only [if_neg c5, if_neg c5']
      repeat (first | exact OK2_c H2 | split)
  · rw [if_neg c1, if_neg (fun z => c1 ((isK_t 0 p1 3).mp z))]
    exact OK2_c H2
/-- when it arrives -/
def arrP (w : Int32) (lift : Int32 → Int32) (pu tg : Int32) : Nat → Nat → Int32 → Int32 → Int32
  | 0, sec, t, _ => if t < tg then -1 else nI sec
  | k + 1, sec, t, s => if tg ≤ t then nI sec else arrP w lift pu tg k (sec + 1) (stpT w lift pu t s) (stpS w lift pu t s)
theorem arrP_at {w : Int32} {lift : Int32 → Int32} {pu tg : Int32} {k sec : Nat} {t s : Int32} (h : tg ≤ t) : arrP w lift pu tg k sec t s = nI sec := by
  cases k with
  | zero => rw [arrP, if_neg (Int32.not_lt.mpr h)]
  | succ k => rw [arrP, if_pos h]
theorem arrC {v1 : Int32} {N : Nat} (hN : N ≤ 600) : ∀ (k sec : Nat) (h : HS), VYc h → sec + k = N → ∀ n, k < n → ∃ h', fX3_arrives_2 n v1 (nI N) (nI sec) h = some (arrP (gI h 7 1) (Lc h) (gI h 7 2) (v1 * 10) k sec (gI h 7 3) (gI h 7 4), h') ∧ (∀ b j, ¬ b = 7 → gI h' b j = gI h b j) := by
  intro k
  induction k with
  | zero =>
    intro sec h Y hs n hn
    obtain ⟨n', rfl⟩ := fuel1 hn
    refine ⟨h, ?_, fun _ _ _ => rfl⟩
    rw [fX3_arrives_2, arrP, if_pos (nI_le (by omega) (by omega))]
    unfold fX3_arrives_28
    rw [ite_self]
    split <;> rfl
  | succ k ih =>
    intro sec h Y hs n hn
    obtain ⟨n', rfl⟩ := fuel1 hn
    rw [fX3_arrives_2, arrP]
    unfold fX3_arrives_28
    by_cases c : v1 * 10 ≤ gI h 7 3
    · rw [if_pos c, if_pos c, if_neg (Int32.not_lt.mpr c)]
      exact ⟨h, rfl, fun _ _ _ => rfl⟩
    · rw [if_neg c, if_neg c, if_neg (nI_ge (by omega) (by omega))]
      obtain ⟨h1, a1, a2, a3, a4⟩ := e_secC Y
      obtain ⟨s1, s2, s3, s4⟩ := sm73 a2
      obtain ⟨h', b1, b2⟩ := ih (sec + 1) h1 (s1 Y) (by omega) n' (by omega)
      refine ⟨h', ?_, fun b j hb => (b2 b j hb).trans (a2 b j (fun z => hb z.1))⟩
      rw [a1, bv_s, nm_e1, nI_1, b1, s3, s4, a3, a4, show Lc h1 = Lc h from funext s2]
theorem diM {v2 f : Int32} {N : Nat} (hN : N ≤ 600) (hf : ¬ f = -1) : ∀ (k i : Nat) (h : HS), VN h → VY h → i + k = N + 1 → ∀ n, k < n → ∃ h', fX12_dives_34 n v2 (nI N) f (nI i) h = some (f, h') ∧ (∀ b j, ¬ (b = 0 ∧ (j = 48 ∨ j = 49)) → gI h' b j = gI h b j) := by
  intro k
  induction k with
  | zero =>
    intro i h V Y hs n hn
    obtain ⟨n', rfl⟩ := fuel1 hn
    exact ⟨h, by rw [fX12_dives_34, if_pos (nI_lt (by omega) (by omega))], fun _ _ _ => rfl⟩
  | succ k ih =>
    intro i h V Y hs n hn
    obtain ⟨n', rfl⟩ := fuel1 hn
    obtain ⟨h1, a1, a2, a3, a4⟩ := e_secM V Y
    obtain ⟨-, s2, s3, -⟩ := sm48 a2
    obtain ⟨h', b1, b2⟩ := ih (i + 1) h1 (s2 V) (s3 Y) (by omega) n' (by omega)
    refine ⟨h', ?_, fun b j hb => (b2 b j hb).trans (a2 b j hb)⟩
    rw [fX12_dives_34, if_neg (nI_nlt (by omega) (by omega)), a1, bv_s, if_neg hf]
    unfold fX12_dives_66 fX12_dives_68
    rw [nm_e1, nI_1]
    exact b1
theorem diM1 {v2 : Int32} {N : Nat} (hN : N ≤ 600) : ∀ (k sec : Nat) (h : HS), VN h → VY h → sec + k = N → gI h 0 48 < 10 * v2 → ∀ n, k < n → ∃ h', fX12_dives_34 n v2 (nI N) (-1) (nI (sec + 1)) h = some (arrP (Wm h) (Lm h) (Mm h / 2000) (10 * v2) k sec (gI h 0 48) (gI h 0 49), h') ∧ (∀ b j, ¬ (b = 0 ∧ (j = 48 ∨ j = 49)) → gI h' b j = gI h b j) := by
  intro k
  induction k with
  | zero =>
    intro sec h V Y hs hl n hn
    obtain ⟨n', rfl⟩ := fuel1 hn
    exact ⟨h, by rw [fX12_dives_34, if_pos (nI_lt (by omega) (by omega)), arrP, if_pos hl], fun _ _ _ => rfl⟩
  | succ k ih =>
    intro sec h V Y hs hl n hn
    obtain ⟨n', rfl⟩ := fuel1 hn
    obtain ⟨h1, a1, a2, a3, a4⟩ := e_secM V Y
    obtain ⟨-, s2, s3, s4, s5, s6⟩ := sm48 a2
    rw [fX12_dives_34, if_neg (nI_nlt (by omega) (by omega)), a1, bv_s, if_pos rfl, arrP, if_neg (Int32.not_le.mpr hl)]
    unfold fX12_dives_66 fX12_dives_68
    simp only [nm_e1, nI_1]
    by_cases c : gI h1 0 48 < 10 * v2
    · rw [if_pos c]
      obtain ⟨h', b1, b2⟩ := ih (sec + 1) h1 (s2 V) (s3 Y) (by omega) c n' (by omega)
      refine ⟨h', ?_, fun b j hb => (b2 b j hb).trans (a2 b j hb)⟩
      rw [b1, s5, s6, a3, a4, show Lm h1 = Lm h from funext s4]
    · rw [if_neg c]
      obtain ⟨h', b1, b2⟩ := diM (v2 := v2) hN (f := nI (sec + 1)) (fun z => m1_ne (by omega) z.symm) k (sec + 2) h1 (s2 V) (s3 Y) (by omega) n' (by omega)
      refine ⟨h', ?_, fun b j hb => (b2 b j hb).trans (a2 b j hb)⟩
      rw [b1, arrP_at]
      rw [← a3]
      exact Int32.not_lt.mp c
theorem e_dives {h : HS} {p1 p2 : Int32} {N : Nat} (hN : N ≤ 600) (V : VN h) (Y : VY h) : ∃ h', fX12_dives p1 p2 (nI N) h = some (arrP (Wm h) (Lm h) (Mm h / 2000) (10 * p2) N 0 (10 * p1) 0, h') ∧ (∀ b j, ¬ (b = 0 ∧ (j = 48 ∨ j = 49)) → gI h' b j = gI h b j) := by
  have sm : ∀ b j, ¬ (b = 0 ∧ (j = 48 ∨ j = 49)) → gI (pI (pI h 0 48 (10 * p1)) 0 49 0) b j = gI h b j := fun b j hb => by
    rw [gI_pI, if_neg (fun z => hb ⟨z.1, Or.inr z.2⟩), gI_pI, if_neg (fun z => hb ⟨z.1, Or.inl z.2⟩)]
  obtain ⟨-, s2, s3, s4, s5, s6⟩ := sm48 sm
  have e48 : gI (pI (pI h 0 48 (10 * p1)) 0 49 0) 0 48 = 10 * p1 := by rw [gI_pI, if_neg (by decide), gI_pI, if_pos ⟨rfl, rfl⟩]
  have e49 : gI (pI (pI h 0 48 (10 * p1)) 0 49 0) 0 49 = 0 := by rw [gI_pI, if_pos ⟨rfl, rfl⟩]
  have e1 : (1 : Int32) = nI 1 := by decide
  unfold fX12_dives fX12_dives_29
  simp only [nm_e1]
  rw [e48]
  by_cases c : 10 * p1 < 10 * p2
  · rw [if_pos c]
    obtain ⟨h', b1, b2⟩ := diM1 (v2 := p2) hN N 0 _ (s2 V) (s3 Y) (by omega) (by rw [e48]; exact c) FU (FU_gt (by omega))
    refine ⟨h', ?_, fun b j hb => (b2 b j hb).trans (sm b j hb)⟩
    rw [show nI (0 + 1) = 1 by decide] at b1
    rw [b1, s5, s6, e48, e49, show Lm (pI (pI h 0 48 (10 * p1)) 0 49 0) = Lm h from funext s4]
  · rw [if_neg c]
    obtain ⟨h', b1, b2⟩ := diM (v2 := p2) hN (f := 0) (by decide) N 1 _ (s2 V) (s3 Y) (by omega) FU (FU_gt (by omega))
    refine ⟨h', ?_, fun b j hb => (b2 b j hb).trans (sm b j hb)⟩
    rw [← e1] at b1
    rw [b1, arrP_at (Int32.not_lt.mp c), nI_0]
end DVG
