section BIU
variable {hc hm : HS}
/-- a bit -/
def btP (p : Int32) (i : Nat) : Int32 := (p >>> (nI i &&& 31)) &&& 1
theorem btP_01 (p : Int32) (i : Nat) : btP p i = 0 ∨ btP p i = 1 := by
  obtain ⟨j, hj, e⟩ := pk_andE (p >>> (nI i &&& 31)) (m := 1) 1 (by decide)
  unfold btP
  rw [e]
  have : j = 0 ∨ j = 1 := by omega
  rcases this with rfl | rfl
  · exact Or.inl nI_0
  · exact Or.inr (by decide)
def tkV (kd : Nat → Int32) (p : Int32) : Nat → Nat → Int32
  | _, 0 => 1
  | i, k + 1 => if btP p i = 0 then tkV kd p (i + 1) k else if kd i = 0 then tkV kd p (i + 1) k else 0
theorem tkV_01 {kd : Nat → Int32} {p : Int32} : ∀ k i, tkV kd p i k = 0 ∨ tkV kd p i k = 1
  | 0, _ => Or.inr rfl
  | k + 1, i => by
    rw [tkV]
    have := tkV_01 (kd := kd) (p := p) k (i + 1)
    split
    · exact this
    · split
      · exact this
      · exact Or.inl rfl
theorem tkV_x {kd : Nat → Int32} {p : Int32} : ∀ k i, tkV kd p i k = 1 → ∀ l, i ≤ l → l < i + k → ¬ btP p l = 0 → kd l = 0
  | 0, i, _, l, h1, h2, _ => by omega
  | k + 1, i, h, l, h1, h2, h3 => by
    rw [tkV] at h
    by_cases c1 : btP p i = 0
    · rw [if_pos c1] at h
      by_cases c2 : l = i
      · subst c2; exact absurd c1 h3
      · exact tkV_x k (i + 1) h l (by omega) (by omega) h3
    · rw [if_neg c1] at h
      by_cases c3 : kd i = 0
      · rw [if_pos c3] at h
        by_cases c2 : l = i
        · subst c2; exact c3
        · exact tkV_x k (i + 1) h l (by omega) (by omega) h3
      · rw [if_neg c3] at h
        exact absurd h (by decide)
theorem l_are0 {h : HS} {N : Nat} (hN : N ≤ 15) (e : gI h 2 8 = nI N) (p : Int32) : ∀ (k i : Nat), i + k = N → ∀ (n : Nat), k < n → fX11_areTanks_24 n p 0 (nI i) h = some (0, h) := by
  intro k
  induction k with
  | zero =>
    intro i hi n hn
    obtain ⟨m, rfl⟩ := fuel1 hn
    rw [fX11_areTanks_24, e, if_pos (nI_le (by omega) (by omega)), nz0]
  | succ k ih =>
    intro i hi n hn
    obtain ⟨m, rfl⟩ := fuel1 hn
    rw [fX11_areTanks_24, e, if_neg (nI_ge (by omega) (by omega)), if_pos rfl]
    unfold fX11_areTanks_63 fX11_areTanks_64
    rw [nm_e1, nI_1]
    exact ih (i + 1) (by omega) m (by omega)
theorem l_are1 {h : HS} {N : Nat} (hN : N ≤ 15) (e : gI h 2 8 = nI N) (p : Int32) : ∀ (k i : Nat), i + k = N → ∀ (n : Nat), k < n → fX11_areTanks_24 n p 1 (nI i) h = some (tkV (gI h 26) p i k, h) := by
  intro k
  induction k with
  | zero =>
    intro i hi n hn
    obtain ⟨m, rfl⟩ := fuel1 hn
    rw [fX11_areTanks_24, e, if_pos (nI_le (by omega) (by omega)), nz1]
    rfl
  | succ k ih =>
    intro i hi n hn
    obtain ⟨m, rfl⟩ := fuel1 hn
    rw [fX11_areTanks_24, e, if_neg (nI_ge (by omega) (by omega)), if_neg (by decide)]
    unfold fX11_areTanks_63 fX11_areTanks_59 fX11_areTanks_64
    rw [show (p >>> (nI i &&& 31)) &&& 1 = btP p i from rfl]
    simp only [nm_e1, nI_1, inb_n (show i < 15 by omega) (by omega), ck_t, nI_clamp (show i < 2 ^ 31 by omega), ih (i + 1) (by omega) m (by omega), l_are0 hN e p k (i + 1) (by omega) m (by omega), tkV]
    by_cases c1 : btP p i = 0
    · rw [if_pos c1, if_pos c1]
    · rw [if_neg c1, if_neg c1]
      by_cases c2 : gI h 26 i = 0
      · rw [if_pos c2, if_pos c2]
      · rw [if_neg c2, if_neg c2]
theorem e_has (p : Int32) (i : Nat) (h : HS) : fX12_has p (nI i) h = some (if btP p i = 1 then 1 else 0, h) := by
  unfold fX12_has
  rw [show (p >>> (nI i &&& 31)) &&& 1 = btP p i from rfl]
  split <;> rfl
theorem btP_n0 {p : Int32} {i : Nat} : btP p i = 1 ↔ ¬ btP p i = 0 := by
  rcases btP_01 p i with h | h <;> rw [h] <;> decide
theorem l_areM {h : HS} {N : Nat} (hN : N ≤ 15) (e : gI h 0 0 = nI N) (p : Int32) : ∀ (k i : Nat), i + k = N → ∀ (n : Nat), k < n → fX12_areTanks_26 n p (nI i) h = some (tkV (gI h 1) p i k, h) := by
  intro k
  induction k with
  | zero =>
    intro i hi n hn
    obtain ⟨m, rfl⟩ := fuel1 hn
    rw [fX12_areTanks_26, e, if_pos (nI_le (by omega) (by omega))]
    rfl
  | succ k ih =>
    intro i hi n hn
    obtain ⟨m, rfl⟩ := fuel1 hn
    rw [fX12_areTanks_26, e, if_neg (nI_ge (by omega) (by omega)), e_has, bd_s, if10s]
    simp only [nm_e1, nI_1, inb_n (show i < 15 by omega) (by omega), ck_t, nI_clamp (show i < 2 ^ 31 by omega), ih (i + 1) (by omega) m (by omega), tkV]
    by_cases c1 : btP p i = 0
    · rw [if_neg (fun z => btP_n0.mp z c1), if_pos c1]
    · rw [if_pos (btP_n0.mpr c1), if_neg c1]
      by_cases c2 : gI h 1 i = 0
      · rw [if_pos c2, if_pos c2]
      · rw [if_neg c2, if_neg c2]
theorem tn_int (v : Int32) : v.toInt = if v.toBitVec.toNat < 2147483648 then (v.toBitVec.toNat : Int) else (v.toBitVec.toNat : Int) - 4294967296 := by
  show v.toBitVec.toInt = _
  rw [BitVec.toInt_eq_toNat_cond]
  split <;> split <;> simp at * <;> omega
theorem tn_0 (v : Int32) : v = 0 ↔ v.toBitVec.toNat = 0 := by
  constructor
  · rintro rfl; rfl
  · intro h
    apply Int32.toBitVec_inj.1
    apply BitVec.eq_of_toNat_eq
    rw [h]
    rfl
theorem rngB {n : Nat} (hn : n ≤ 15) (p : Int32) : ((¬ p = 0 ∧ iush p (nI n) = 0) ↔ (¬ p ≤ 0 ∧ ¬ ((1 : Int32) <<< (nI n &&& 31)) ≤ p)) ∧ ((¬ p = 0 ∧ iush p (nI n) = 0) → ∃ P, 0 < P ∧ P < 2 ^ n ∧ p = nI P) := by
  have hs : ((nI n).toUInt32 &&& Int32.toUInt32 31).toBitVec.toNat % 32 = n := by
    have : ∀ k : Fin 16, ((nI k.val).toUInt32 &&& Int32.toUInt32 31).toBitVec.toNat % 32 = k.val := by decide +kernel
    exact this ⟨n, by omega⟩
  have hs1 : (((nI n).toUInt32 &&& Int32.toUInt32 31).toBitVec % 32).toNat = n := by
    have : ∀ k : Fin 16, (((nI k.val).toUInt32 &&& Int32.toUInt32 31).toBitVec % 32).toNat = k.val := by decide +kernel
    exact this ⟨n, by omega⟩
  have hs2 : ((nI n &&& 31).toBitVec.smod 32).toNat = n := by
    have : ∀ k : Fin 16, ((nI k.val &&& 31).toBitVec.smod 32).toNat = k.val := by decide +kernel
    exact this ⟨n, by omega⟩
  have hp : 2 ^ n ≤ 2 ^ 15 := Nat.pow_le_pow_right (by decide) hn
  have hp0 : 0 < 2 ^ n := Nat.pow_pos (by decide)
  have e1 : (1 : Int32) <<< (nI n &&& 31) = nI (2 ^ n) := by
    rw [show (1 : Int32) = nI 1 by decide, pk_shlN _ n hs2 (by omega), Nat.one_mul]
  have e2 : (iush p (nI n)).toBitVec.toNat = p.toBitVec.toNat / 2 ^ n := pk_ushr p (nI n) n hs1
  have e3 : iush p (nI n) = 0 ↔ p.toBitVec.toNat < 2 ^ n := by
    rw [tn_0, e2, Nat.div_eq_zero_iff]
    omega
  have e4 := tn_int p
  have e5 := p.toBitVec.isLt
  rw [e3, e1, tn_0 p, i32_le, i32_le, i32_z, nI_toInt (by omega)]
  refine ⟨?_, fun h => ⟨p.toBitVec.toNat, by omega, h.2, ?_⟩⟩
  · constructor
    · rintro ⟨h1, h2⟩
      rw [if_pos (by omega)] at e4
      omega
    · rintro ⟨h1, h2⟩
      by_cases c : p.toBitVec.toNat < 2147483648
      · rw [if_pos c] at e4
        omega
      · rw [if_neg c] at e4
        omega
  · rw [if_pos (by omega)] at e4
    exact i32_eqI e4
theorem e_are (H : RR hc hm) (p : Int32) : ∃ T : Int32, fX11_areTanks p hc = some (T, hc) ∧ (T = 0 ∨ T = 1) ∧ (T = 0 → ∀ many, fX12_areTanks p many hm = some (0, hm)) ∧ (T = 1 → ∃ P, 0 < P ∧ P < 2 ^ nLd hm ∧ p = nI P ∧ (∀ i, i < nLd hm → ¬ btP p i = 0 → gI hm 1 i = 0) ∧ ∀ many, fX12_areTanks p many hm = some (if nI (popN 15 P) ≤ many then 1 else 0, hm)) := by
  have h15 := RR_15 H
  obtain ⟨q1, q2⟩ := rngB h15 p
  have e26 : gI hc 26 = gI hm 1 := funext H.1.1.2.1
  have f0 : fX11_areTanks_24 FU p 0 0 hc = some (0, hc) := by
    have := l_are0 h15 (RR_eC H) p (nLd hm) 0 (by omega) FU (FU_gt (by omega))
    rw [nI_0] at this; exact this
  have f1 : fX11_areTanks_24 FU p 1 0 hc = some (tkV (gI hm 1) p 0 (nLd hm), hc) := by
    have := l_are1 h15 (RR_eC H) p (nLd hm) 0 (by omega) FU (FU_gt (by omega))
    rw [nI_0, e26] at this; exact this
  have f2 : fX12_areTanks_26 FU p 0 hm = some (tkV (gI hm 1) p 0 (nLd hm), hm) := by
    have := l_areM h15 (RR_eM H) p (nLd hm) 0 (by omega) FU (FU_gt (by omega))
    rw [nI_0] at this; exact this
  unfold fX11_areTanks fX12_areTanks fX11_areTanks_20 fX11_areTanks_21
  rw [f0, f1, RR_eC H, RR_eM H]
  by_cases c : ¬ p = 0 ∧ iush p (nI (nLd hm)) = 0
  · rw [if_neg c.1, if_pos c.2]
    obtain ⟨P, h1, h2, h3⟩ := q2 c
    subst h3
    have hp : 2 ^ nLd hm ≤ 2 ^ 15 := Nat.pow_le_pow_right (by decide) h15
    refine ⟨_, rfl, tkV_01 _ _, fun z many => ?_, fun z => ⟨P, h1, h2, rfl, fun i hi hb => tkV_x _ _ z i (by omega) (by omega) hb, fun many => ?_⟩⟩
    · rw [if_neg (q1.mp c).1, if_neg (q1.mp c).2, e_bc (by omega), bd_s, f2, z, ite_self]
    · rw [if_neg (q1.mp c).1, if_neg (q1.mp c).2, e_bc (by omega), bd_s, f2, z]
      split <;> rfl
  · have hM : ∀ X : Option (Int32 × HS), (if p ≤ 0 then some ((0 : Int32), hm) else if (1 : Int32) <<< (nI (nLd hm) &&& 31) ≤ p then some (0, hm) else X) = some (0, hm) := by
      intro X
      by_cases c1 : p ≤ 0
      · rw [if_pos c1]
      · rw [if_neg c1]
        by_cases c2 : (1 : Int32) <<< (nI (nLd hm) &&& 31) ≤ p
        · rw [if_pos c2]
        · exact absurd (q1.mpr ⟨c1, c2⟩) c
    refine ⟨0, ?_, Or.inl rfl, fun _ many => hM _, fun z => absurd z (by decide)⟩
    by_cases c1 : p = 0
    · rw [if_pos c1]
    · rw [if_neg c1, if_neg (fun z => c ⟨c1, z⟩)]
def afI (m d : Int32) : Int32 := (m * (d + 10) + 9) / 10
theorem af_rng {m d : Int32} (h1 : 0 ≤ m.toInt ∧ m.toInt ≤ 999) (h2 : 0 ≤ d ∧ d ≤ 600) : 0 ≤ (afI m d).toInt ∧ (afI m d).toInt ≤ 60940 := by
  have r := rngI 0 600 h2
  have k10 : (10 : Int32).toInt = 10 := by decide +kernel
  have k9 : (9 : Int32).toInt = 9 := by decide +kernel
  have e1 : (d + 10).toInt = d.toInt + 10 := by rw [fb_addI9 (by omega) (by omega), k10]
  obtain ⟨m1, m2, m3⟩ := mul_rng (x := m) (y := d + 10) (a := 999) (b := 610) (by omega) (by omega) (by omega) (by omega)
  have m4 : 0 ≤ (m * (d + 10)).toInt := by rw [m1]; exact Int.mul_nonneg (by omega) (by omega)
  have e2 : (m * (d + 10) + 9).toInt = (m * (d + 10)).toInt + 9 := by rw [fb_addI9 (by omega) (by omega), k9]
  unfold afI
  rw [fb_divI9 (by omega), k10, Int.tdiv_eq_ediv_of_nonneg (by omega)]
  omega
theorem op_times (H : RR hc hm) (p1 p2 : Int32) : OK2 (fX11_times p1 p2 hc) (fX12_times p1 p2 hm) := by
  have H2 := RR_thrown 0 H
  have h15 := RR_15 H
  obtain ⟨T, a1, a2, a3, a4⟩ := e_are H2 p1
  simp only [fX11_times, fX12_times, nm_e1, a1, bd_s, f_isDepthC, f_isDepthM, if10s]
  rcases a2 with rfl | rfl
  · rw [a3 rfl 15, bd_s, if_pos rfl, if_pos rfl]
    exact OK2_c H2
  · obtain ⟨P, -, -, -, -, a5⟩ := a4 rfl
    have hpop := popN_le 15 P
    have e15 : (if nI (popN 15 P) ≤ 15 then (1 : Int32) else 0) = 1 := if_pos (by rw [show (15 : Int32) = nI 15 by decide]; exact nI_le hpop (by omega))
    rw [a5 15, e15, bd_s]
    simp only [show ¬ (1 : Int32) = 0 by decide, if_false]
    refine OK2_if (fun c1 => ?_) (fun _ => OK2_c H2)
    have key : ∀ (k i : Nat) (v3 : Int32), i + k = nLd hm → (0 ≤ v3.toInt ∧ v3.toInt ≤ 60940 * i) → ∀ n m, k < n → k < m → OK2 (fX11_times_22 n p1 p2 v3 (nI i) hc) (fX12_times_29 m p1 p2 v3 (nI i) (pI hm 0 22 0)) := by
      intro k
      induction k with
      | zero =>
        intro i v3 hi hv n m hn hm1
        obtain ⟨n', rfl⟩ := fuel1 hn
        obtain ⟨m', rfl⟩ := fuel1 hm1
        rw [fX11_times_22, fX12_times_29, RR_eC H, RR_eM H2, if_pos (nI_le (by omega) (by omega)), if_pos (nI_le (by show nLd hm ≤ i; omega) (by omega))]
        by_cases c : v3 = 0
        · rw [if_pos c, if_neg (by rw [c]; decide)]
          exact OK2_c H2
        · have c2 : 0 < v3 := i32_lt.mpr (by
            have : ¬ v3.toInt = 0 := fun z => c (Int32.toInt_inj.mp z)
            rw [i32_z]; omega)
          have hz : nz v3 = true := decide_eq_true c
          rw [if_neg c, if_pos c2]
          obtain ⟨hc1, hc2, hm2, n1, n2, n3, n4, -, n6, n7⟩ := tell1 H2 (irm (gI hm 0 15) v3)
          have e15 : gI hc 1 6 = gI hm 0 15 := H.1.2.1.2.2.2.2.2.2.2.2.2.1
          have f15 : gI (pI hm 0 22 0) 0 15 = gI hm 0 15 := by rw [gI_pI, if_neg (by decide)]
          rw [n1, bv_s, hz, ck_t, (n6 1 6 (by decide) (by decide)).1, e15, n2, bv_s, ck_t, (n6 1 6 (by decide) (by decide)).2, e15, nm_e1, ck_t, gI_pI, if_neg (by decide), f15, n3, bv_s, n7 0 15 (by decide) (by decide), f15]
          exact OK2_c n4
      | succ k ih =>
        intro i v3 hi hv n m hn hm1
        obtain ⟨n', rfl⟩ := fuel1 hn
        obtain ⟨m', rfl⟩ := fuel1 hm1
        obtain ⟨-, -, -, x1, x2, x3⟩ := H.2.1.1.2 i (by omega)
        rw [fX11_times_22, fX12_times_29, RR_eC H, RR_eM H2, if_neg (nI_ge (by omega) (by omega)), if_neg (nI_ge (by show i < nLd hm; omega) (by show nLd hm < 2 ^ 31; omega)), e_has, bd_s, if10s, show (p1 >>> (nI i &&& 31)) &&& 1 = btP p1 i from rfl]
        unfold fX11_times_62 fX11_airFor fX12_airFor
        have g4 : gI (pI hm 0 22 0) 4 i = gI hm 4 i := by rw [gI_pI, if_neg (by omega)]
        simp only [nm_e1, nI_1, inb_n (show i < 15 by omega) (by omega), ck_t, nI_clamp (show i < 2 ^ 31 by omega), bd_s, H.1.1.2.2.2.2.1, g4]
        by_cases c : btP p1 i = 0
        · rw [if_pos c, if_neg (fun z => btP_n0.mp z c), Int32.add_zero]
          exact ih (i + 1) v3 (by omega) (by omega) n' m' (by omega) (by omega)
        · rw [if_neg c, if_pos (btP_n0.mpr c)]
          have r := af_rng (m := gI hm 4 i) (d := p2) (by omega) c1
          have e : (v3 + afI (gI hm 4 i) p2).toInt = v3.toInt + (afI (gI hm 4 i) p2).toInt := fb_addI9 (by omega) (by omega)
          exact ih (i + 1) (v3 + afI (gI hm 4 i) p2) (by omega) (by omega) n' m' (by omega) (by omega)
    have k0 := key (nLd hm) 0 0 (by omega) (by rw [i32_z]; omega) FU FU (FU_gt (by omega)) (FU_gt (by omega))
    rw [nI_0] at k0
    exact k0
end BIU
