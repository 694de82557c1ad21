/-! PURE: the numbers alone -/
theorem fb_bmod9 {z : Int} (h1 : -2147483648 ≤ z) (h2 : z < 2147483648) : z.bmod (2 ^ 32) = z := by
  rw [Int.bmod_eq_of_le (by omega) (by omega)]
theorem fb_subI9 {x y : Int32} (h1 : -2147483648 ≤ x.toInt - y.toInt) (h2 : x.toInt - y.toInt < 2147483648) : (x - y).toInt = x.toInt - y.toInt := by
  rw [Int32.toInt_sub]
  exact fb_bmod9 h1 h2
theorem gI_pI (h : HS) (a k : Nat) (v : Int32) (b j : Nat) : gI (pI h a k v) b j = if b = a ∧ j = k then v else gI h b j := rfl
theorem gI_pL (h : HS) (a k : Nat) (v : Int64) (b j : Nat) : gI (pL h a k v) b j = gI h b j := rfl
theorem gI_pR (h : HS) (a k : Nat) (v : Option Nat) (b j : Nat) : gI (pR h a k v) b j = gI h b j := rfl
theorem gL_pI (h : HS) (a k : Nat) (v : Int32) (b j : Nat) : gL (pI h a k v) b j = gL h b j := rfl
theorem gL_pL (h : HS) (a k : Nat) (v : Int64) (b j : Nat) : gL (pL h a k v) b j = if b = a ∧ j = k then v else gL h b j := rfl
theorem gL_pR (h : HS) (a k : Nat) (v : Option Nat) (b j : Nat) : gL (pR h a k v) b j = gL h b j := rfl
theorem gR_pI (h : HS) (a k : Nat) (v : Int32) (b j : Nat) : gR (pI h a k v) b j = gR h b j := rfl
theorem gR_pL (h : HS) (a k : Nat) (v : Int64) (b j : Nat) : gR (pL h a k v) b j = gR h b j := rfl
theorem gR_pR (h : HS) (a k : Nat) (v : Option Nat) (b j : Nat) : gR (pR h a k v) b j = if b = a ∧ j = k then v else gR h b j := rfl
theorem gI_cpI (h : HS) (a b sp dp n c j : Nat) : gI (cpI h a b sp dp n) c j = if c = b then va_cpy (h.1 a) (h.1 b) sp dp n j else gI h c j := rfl
theorem ck_t {β : Type} (o : Option β) : ck true o = o := rfl
theorem ck_f {β : Type} (o : Option β) : ck false o = none := rfl
theorem nm_e1 {α β : Type} (e : α) (f : α → β) : nm e f = f e := rfl
theorem bd_s {α β : Type} (a : α) (h : HS) (f : α → HS → Option β) : bd (some (a, h)) f = f a h := rfl
theorem bv_s {β : Type} (h : HS) (f : HS → Option β) : bv (some h) f = f h := rfl
theorem bR_s {β : Type} (a : Nat) (f : Nat → Option β) : bR (some a) f = f a := rfl
theorem inb_n {i n : Nat} (h : i < n) (hn : n < 2 ^ 31) : inb (nI i) n = true := by
  unfold inb
  exact decide_eq_true (vp_in_nI h hn)
theorem inb_iff {x : Int32} {n : Nat} (hn : n < 2 ^ 31) : inb x n = true ↔ ∃ i, i < n ∧ x = nI i := by
  constructor
  · intro h
    obtain ⟨j, h1, h2⟩ := vp_in_of (inb_in h) hn
    exact ⟨j, h1, h2⟩
  · rintro ⟨i, h1, rfl⟩
    exact inb_n h1 hn
theorem nI_toI {i : Nat} (h : i < 2 ^ 31) : (nI i).toInt = (i : Int) := nI_toInt h
theorem nzb0 : vp_nar .boolean 0 = 0 := nz0
theorem nzb1 : vp_nar .boolean 1 = 1 := nz1
theorem nz_if (c : Prop) [Decidable c] : vp_nar .boolean (if c then 1 else 0) = if c then 1 else 0 := by
  by_cases h : c
  · rw [if_pos h, nz1]
  · rw [if_neg h, nz0]
theorem if10 (c : Prop) [Decidable c] : ((if c then (1 : Int32) else 0) = 0) ↔ ¬ c := by
  by_cases h : c
  · simp [h]
  · simp [h]
theorem if10s {α : Type} (c : Prop) [Decidable c] (x y : α) : (if (if c then (1 : Int32) else 0) = 0 then x else y) = if c then y else x := by
  by_cases h : c
  · simp [h]
  · simp [h]
/-- a test that answers 1 or 0 -/
theorem f_between (v lo hi : Int32) (h : HS) : fX11_between v lo hi h = some (if lo ≤ v ∧ v ≤ hi then 1 else 0, h) := by
  unfold fX11_between
  by_cases h1 : v < lo
  · rw [if_pos h1, if_neg (fun q => absurd q.1 (Int32.not_le.mpr h1))]
  · rw [if_neg h1]
    by_cases h2 : hi < v
    · rw [if_pos h2, if_neg (fun q => absurd q.2 (Int32.not_le.mpr h2))]
    · rw [if_neg h2, if_pos ⟨Int32.not_lt.mp h1, Int32.not_lt.mp h2⟩]
theorem f_in (v lo hi : Int32) (h : HS) : fX12_in v lo hi h = some (if lo ≤ v ∧ v ≤ hi then 1 else 0, h) := f_between v lo hi h
theorem f_isDepthC (v : Int32) (h : HS) : fX11_isDepth v h = some (if 0 ≤ v ∧ v ≤ 600 then 1 else 0, h) := by
  unfold fX11_isDepth
  rw [f_between, bd_s, nz_if]
theorem f_isDepthM (v : Int32) (h : HS) : fX12_isDepth v h = some (if 0 ≤ v ∧ v ≤ 600 then 1 else 0, h) := by
  unfold fX12_isDepth
  rw [f_in, bd_s, nz_if]
/-- how many loads there are -/
def nLd (h : HS) : Nat := (gI h 0 0).toNatClampNeg
def VN (h : HS) : Prop := ∃ n, n ≤ 15 ∧ gI h 0 0 = nI n
theorem VN_n {h : HS} (H : VN h) : nLd h ≤ 15 ∧ gI h 0 0 = nI (nLd h) := by
  obtain ⟨n, h1, h2⟩ := H
  have : nLd h = n := by show (gI h 0 0).toNatClampNeg = n; rw [h2, nI_clamp (by omega)]
  rw [this]
  exact ⟨h1, h2⟩
theorem i32_ltle {x : Int32} {n : Nat} (hn : n < 2 ^ 31) : (0 ≤ x ∧ x ≤ nI n - 1) ↔ ∃ i, i < n ∧ x = nI i := by
  have e1 : (nI n - 1).toInt = (n : Int) - 1 := by
    have h1 := fb_subI9 (x := nI n) (y := 1) (by rw [nI_toInt hn]; have : (1 : Int32).toInt = 1 := rfl; omega) (by rw [nI_toInt hn]; have : (1 : Int32).toInt = 1 := rfl; omega)
    rw [h1, nI_toInt hn]
    rfl
  rw [Int32.le_iff_toInt_le, Int32.le_iff_toInt_le, e1]
  constructor
  · rintro ⟨h1, h2⟩
    have h0 : (0 : Int32).toInt = 0 := rfl
    rw [h0] at h1
    refine ⟨x.toInt.toNat, by omega, ?_⟩
    apply Int32.toInt_inj.mp
    rw [nI_toInt (by omega)]
    omega
  · rintro ⟨i, h1, rfl⟩
    rw [nI_toInt (by omega)]
    have h0 : (0 : Int32).toInt = 0 := rfl
    omega
theorem f_thereC {h : HS} {n : Nat} (hn : n < 2 ^ 31) (e : gI h 2 8 = nI n) (x : Int32) : fX4_there x h = some (if ∃ i, i < n ∧ x = nI i then 1 else 0, h) := by
  unfold fX4_there
  by_cases h1 : x < 0
  · rw [if_pos h1, if_neg]
    rintro ⟨i, h2, rfl⟩
    exact nI_pos (by omega) h1
  · rw [if_neg h1, e]
    obtain ⟨j, hj, rfl⟩ := nI_of h1
    by_cases h2 : n ≤ j
    · rw [if_pos (nI_le h2 hj), if_neg]
      rintro ⟨i, h3, h4⟩
      have := (nI_eq hj (by omega)).mp h4
      omega
    · rw [if_neg (nI_ge (by omega) hn), if_pos ⟨j, by omega, rfl⟩]
theorem f_isLoadM {h : HS} {n : Nat} (hn : n < 2 ^ 31) (e : gI h 0 0 = nI n) (x : Int32) : fX12_isLoad x h = some (if ∃ i, i < n ∧ x = nI i then 1 else 0, h) := by
  unfold fX12_isLoad
  rw [f_in, bd_s, nz_if, e]
  simp only [i32_ltle hn]
/-- sums from i on, k of them -/
def sR (f : Nat → Int32) : Nat → Nat → Int32
  | _, 0 => 0
  | i, k + 1 => f i + sR f (i + 1) k

theorem fuel1 {n k : Nat} (h : k < n) : ∃ m, n = m + 1 := ⟨n - 1, by omega⟩
theorem i32_za (x : Int32) : 0 + x = x := Int32.zero_add x
/-- the loop of a sum: head test, in range, add, go on -/
theorem l_weightC {h : HS} {N : Nat} (hN : N ≤ 15) (e : gI h 2 8 = nI N) : ∀ (k i : Nat), i + k = N → ∀ (n : Nat), k < n → ∀ s : Int32, fX4_weight_4 n s (nI i) h = some (s + sR (fun i => gI h 30 i) i k, h) := by
  intro k
  induction k with
  | zero =>
    intro i hi n hn s
    obtain ⟨m, rfl⟩ := fuel1 hn
    rw [fX4_weight_4, e, if_pos (nI_le (by omega) (by omega))]
    simp [sR]
  | succ k ih =>
    intro i hi n hn s
    obtain ⟨m, rfl⟩ := fuel1 hn
    rw [fX4_weight_4, e, if_neg (nI_ge (by omega) (by omega))]
    simp only [inb_n (show i < 15 by omega) (by omega), ck_t, nm_e1, nI_clamp (show i < 2 ^ 31 by omega), nI_1]
    rw [ih (i + 1) (by omega) m (by omega)]
    simp only [sR, Int32.add_assoc]
theorem l_momC {h : HS} {N : Nat} (hN : N ≤ 15) (e : gI h 2 8 = nI N) : ∀ (k i : Nat), i + k = N → ∀ (n : Nat), k < n → ∀ s : Int32, fX4_momentSum_4 n s (nI i) h = some (s + sR (fun i => gI h 27 i * gI h 30 i) i k, h) := by
  intro k
  induction k with
  | zero =>
    intro i hi n hn s
    obtain ⟨m, rfl⟩ := fuel1 hn
    rw [fX4_momentSum_4, e, if_pos (nI_le (by omega) (by omega))]
    simp [sR]
  | succ k ih =>
    intro i hi n hn s
    obtain ⟨m, rfl⟩ := fuel1 hn
    rw [fX4_momentSum_4, e, if_neg (nI_ge (by omega) (by omega))]
    simp only [inb_n (show i < 15 by omega) (by omega), ck_t, nm_e1, nI_clamp (show i < 2 ^ 31 by omega), nI_1]
    rw [ih (i + 1) (by omega) m (by omega)]
    simp only [sR, Int32.add_assoc]
theorem l_listC {h : HS} {N : Nat} (hN : N ≤ 15) (e : gI h 2 8 = nI N) : ∀ (k i : Nat), i + k = N → ∀ (n : Nat), k < n → ∀ s : Int32, fX4_listSum_4 n s (nI i) h = some (s + sR (fun i => gI h 28 i * gI h 30 i) i k, h) := by
  intro k
  induction k with
  | zero =>
    intro i hi n hn s
    obtain ⟨m, rfl⟩ := fuel1 hn
    rw [fX4_listSum_4, e, if_pos (nI_le (by omega) (by omega))]
    simp [sR]
  | succ k ih =>
    intro i hi n hn s
    obtain ⟨m, rfl⟩ := fuel1 hn
    rw [fX4_listSum_4, e, if_neg (nI_ge (by omega) (by omega))]
    simp only [inb_n (show i < 15 by omega) (by omega), ck_t, nm_e1, nI_clamp (show i < 2 ^ 31 by omega), nI_1]
    rw [ih (i + 1) (by omega) m (by omega)]
    simp only [sR, Int32.add_assoc]
theorem l_weightM {h : HS} {N : Nat} (hN : N ≤ 15) (e : gI h 0 0 = nI N) : ∀ (k i : Nat), i + k = N → ∀ (n : Nat), k < n → ∀ s : Int32, fX12_weight_7 n s (nI i) h = some (s + sR (fun i => gI h 5 i) i k, h) := by
  intro k
  induction k with
  | zero =>
    intro i hi n hn s
    obtain ⟨m, rfl⟩ := fuel1 hn
    rw [fX12_weight_7, e, if_pos (nI_le (by omega) (by omega))]
    simp [sR]
  | succ k ih =>
    intro i hi n hn s
    obtain ⟨m, rfl⟩ := fuel1 hn
    rw [fX12_weight_7, e, if_neg (nI_ge (by omega) (by omega))]
    simp only [inb_n (show i < 15 by omega) (by omega), ck_t, nm_e1, nI_clamp (show i < 2 ^ 31 by omega), nI_1]
    rw [ih (i + 1) (by omega) m (by omega)]
    simp only [sR, Int32.add_assoc]
theorem l_momM0 {h : HS} {N : Nat} (hN : N ≤ 15) (e : gI h 0 0 = nI N) : ∀ (k i : Nat), i + k = N → ∀ (n : Nat), k < n → ∀ s : Int32, fX12_momentOf_18 n 0 s (nI i) h = some (s + sR (fun i => gI h 2 i * gI h 5 i) i k, h) := by
  intro k
  induction k with
  | zero =>
    intro i hi n hn s
    obtain ⟨m, rfl⟩ := fuel1 hn
    rw [fX12_momentOf_18, e, if_pos (nI_le (by omega) (by omega))]
    simp [sR]
  | succ k ih =>
    intro i hi n hn s
    obtain ⟨m, rfl⟩ := fuel1 hn
    rw [fX12_momentOf_18, e, if_neg (nI_ge (by omega) (by omega)), if_pos rfl]
    unfold fX12_momentOf_46
    simp only [inb_n (show i < 15 by omega) (by omega), ck_t, nm_e1, nI_clamp (show i < 2 ^ 31 by omega), nI_1]
    rw [ih (i + 1) (by omega) m (by omega)]
    simp only [sR, Int32.add_assoc]
theorem l_momM1 {h : HS} {N : Nat} (hN : N ≤ 15) (e : gI h 0 0 = nI N) {w : Int32} (hw : ¬ w = 0) : ∀ (k i : Nat), i + k = N → ∀ (n : Nat), k < n → ∀ s : Int32, fX12_momentOf_18 n w s (nI i) h = some (s + sR (fun i => gI h 3 i * gI h 5 i) i k, h) := by
  intro k
  induction k with
  | zero =>
    intro i hi n hn s
    obtain ⟨m, rfl⟩ := fuel1 hn
    rw [fX12_momentOf_18, e, if_pos (nI_le (by omega) (by omega))]
    simp [sR]
  | succ k ih =>
    intro i hi n hn s
    obtain ⟨m, rfl⟩ := fuel1 hn
    rw [fX12_momentOf_18, e, if_neg (nI_ge (by omega) (by omega)), if_neg hw]
    unfold fX12_momentOf_46
    simp only [inb_n (show i < 15 by omega) (by omega), ck_t, nm_e1, nI_clamp (show i < 2 ^ 31 by omega), nI_1]
    rw [ih (i + 1) (by omega) m (by omega)]
    simp only [sR, Int32.add_assoc]
/-- the density: layers from i on, k of them -/
def dR (ld dd : Nat → Int32) (d : Int32) : Nat → Nat → Int32 → Int32
  | _, 0, v => v
  | i, k + 1, v => dR ld dd d (i + 1) k (if d < ld i then v else dd i)
theorem dR_stop {ld dd : Nat → Int32} {d : Int32} : ∀ (k i : Nat) (v : Int32), (∀ j, i ≤ j → j < i + k → d < ld j) → dR ld dd d i k v = v
  | 0, _, _, _ => rfl
  | k + 1, i, v, H => by
    rw [dR, if_pos (H i (Nat.le_refl i) (by omega))]
    exact dR_stop k (i + 1) v (fun j h1 h2 => H j (by omega) (by omega))
theorem l_densM {h : HS} {N : Nat} (hN : N ≤ 6) (e : gI h 0 11 = nI N) (d : Int32) : ∀ (k i : Nat), i + k = N → ∀ (n : Nat), k < n → ∀ v : Int32, fX12_densityAt_6 n d v (nI i) h = some (dR (gI h 6) (gI h 7) d i k v, h) := by
  intro k
  induction k with
  | zero =>
    intro i hi n hn s
    obtain ⟨m, rfl⟩ := fuel1 hn
    rw [fX12_densityAt_6, e, if_pos (nI_le (by omega) (by omega))]
    simp [dR]
  | succ k ih =>
    intro i hi n hn v
    obtain ⟨m, rfl⟩ := fuel1 hn
    rw [fX12_densityAt_6, e, if_neg (nI_ge (by omega) (by omega))]
    simp only [inb_n (show i < 6 by omega) (by omega), ck_t, nm_e1, nI_clamp (show i < 2 ^ 31 by omega), nI_1]
    by_cases hc : d < gI h 6 i
    · rw [if_pos hc, ih (i + 1) (by omega) m (by omega), dR, if_pos hc]
    · rw [if_neg hc, ih (i + 1) (by omega) m (by omega), dR, if_neg hc]
theorem l_densC {h : HS} {N : Nat} (hN : N ≤ 6) (e : gI h 3 2 = nI N) (up : ∀ i j, i < j → j < N → gI h 33 i < gI h 33 j) (d : Int32) : ∀ (k i : Nat), i + k = N → ∀ (n : Nat), k < n → ∀ v : Int32, fX10_densityAt_6 n d v (nI i) h = some (dR (gI h 33) (gI h 34) d i k v, h) := by
  intro k
  induction k with
  | zero =>
    intro i hi n hn s
    obtain ⟨m, rfl⟩ := fuel1 hn
    rw [fX10_densityAt_6, e, if_pos (nI_le (by omega) (by omega))]
    simp [dR]
  | succ k ih =>
    intro i hi n hn v
    obtain ⟨m, rfl⟩ := fuel1 hn
    rw [fX10_densityAt_6, e, if_neg (nI_ge (by omega) (by omega))]
    simp only [inb_n (show i < 6 by omega) (by omega), ck_t, nm_e1, nI_clamp (show i < 2 ^ 31 by omega), nI_1]
    by_cases hc : d < gI h 33 i
    · rw [if_pos hc, dR_stop (k + 1) i v (fun j h1 h2 => ?_)]
      by_cases hj : j = i
      · rw [hj]; exact hc
      · have h3 := up i j (by omega) (by omega)
        rw [Int32.lt_iff_toInt_lt] at hc h3 ⊢
        omega
    · rw [if_neg hc, ih (i + 1) (by omega) m (by omega), dR, if_neg hc]
theorem FU_gt {k : Nat} (h : k < 40000) : k < FU := by rw [FU_eq]; exact h
/-- what is told of a boat by its numbers: w(eight), m(oment), l(ist), d(ensity), lift -/
def wV (b : Int32) (has : Nat → Int32) (n : Nat) : Int32 := b + sR has 0 n
def mV (b : Int32) (x has : Nat → Int32) (n : Nat) : Int32 := b + sR (fun i => x i * has i) 0 n
def dV (ld dd : Nat → Int32) (n : Nat) (d : Int32) : Int32 := dR ld dd d 0 n 1000
def lV (vol sq : Int32) (ld dd : Nat → Int32) (n : Nat) (d : Int32) : Int32 := (vol - sq * d / 10) * dV ld dd n d / 1000
def nLy (h : HS) : Nat := (gI h 0 11).toNatClampNeg
def VY (h : HS) : Prop := ∃ m, m ≤ 6 ∧ gI h 0 11 = nI m ∧ ∀ i j, i < j → j < m → gI h 6 i < gI h 6 j
theorem VY_n {h : HS} (H : VY h) : nLy h ≤ 6 ∧ gI h 0 11 = nI (nLy h) ∧ ∀ i j, i < j → j < nLy h → gI h 6 i < gI h 6 j := by
  obtain ⟨n, h1, h2, h3⟩ := H
  have e : nLy h = n := by show (gI h 0 11).toNatClampNeg = n; rw [h2, nI_clamp (by omega)]
  rw [e]
  exact ⟨h1, h2, h3⟩
/-- of the model -/
def Wm (h : HS) : Int32 := wV (gI h 0 6) (gI h 5) (nLd h)
def Mm (h : HS) : Int32 := mV (gI h 0 7) (gI h 2) (gI h 5) (nLd h)
def Tm (h : HS) : Int32 := mV (gI h 0 8) (gI h 3) (gI h 5) (nLd h)
def Dm (h : HS) (d : Int32) : Int32 := dV (gI h 6) (gI h 7) (nLy h) d
def Lm (h : HS) (d : Int32) : Int32 := lV (gI h 0 9) (gI h 0 10) (gI h 6) (gI h 7) (nLy h) d
def Hm (h : HS) (d : Int32) : Int32 := Wm h - Lm h d
def Bm (h : HS) (d : Int32) : Prop := iabs (Hm h d) ≤ gI h 8 0 ∧ iabs (Mm h) ≤ gI h 8 1 ∧ iabs (Tm h) ≤ gI h 8 2
theorem e_weightM {h : HS} (V : VN h) : fX12_weight h = some (Wm h, h) := by
  obtain ⟨h1, h2⟩ := VN_n V
  unfold fX12_weight
  rw [nm_e1, ← nI_0, l_weightM h1 h2 (nLd h) 0 (by omega) FU (FU_gt (by omega))]
  rfl
theorem e_momM0 {h : HS} (V : VN h) : fX12_momentOf 0 h = some (Mm h, h) := by
  obtain ⟨h1, h2⟩ := VN_n V
  unfold fX12_momentOf fX12_momentOf_15
  rw [if_pos rfl]
  have e0 : fX12_momentOf_18 FU 0 (gI h 0 7) 0 h = fX12_momentOf_18 FU 0 (gI h 0 7) (nI 0) h := by rw [nI_0]
  rw [e0, l_momM0 h1 h2 (nLd h) 0 (by omega) FU (FU_gt (by omega))]
  rfl
theorem e_momM1 {h : HS} (V : VN h) {w : Int32} (hw : ¬ w = 0) : fX12_momentOf w h = some (Tm h, h) := by
  obtain ⟨h1, h2⟩ := VN_n V
  unfold fX12_momentOf fX12_momentOf_15
  rw [if_neg hw]
  have e0 : fX12_momentOf_18 FU w (gI h 0 8) 0 h = fX12_momentOf_18 FU w (gI h 0 8) (nI 0) h := by rw [nI_0]
  rw [e0, l_momM1 h1 h2 hw (nLd h) 0 (by omega) FU (FU_gt (by omega))]
  rfl
theorem e_densM {h : HS} (V : VY h) (d : Int32) : fX12_densityAt d h = some (Dm h d, h) := by
  obtain ⟨h1, h2, -⟩ := VY_n V
  unfold fX12_densityAt
  have e0 : fX12_densityAt_6 FU d 1000 0 h = fX12_densityAt_6 FU d 1000 (nI 0) h := by rw [nI_0]
  rw [e0, l_densM h1 h2 d (nLy h) 0 (by omega) FU (FU_gt (by omega))]
  rfl
theorem e_liftM {h : HS} (V : VY h) (d : Int32) : fX12_liftAt d h = some (Lm h d, h) := by
  unfold fX12_liftAt
  rw [e_densM V, bd_s]
  rfl
theorem e_heavyM {h : HS} (V : VN h) (Y : VY h) (d : Int32) : fX12_heavyAt d h = some (Hm h d, h) := by
  unfold fX12_heavyAt
  rw [e_weightM V, bd_s, e_liftM Y, bd_s]
  rfl
theorem i32_nlt {x y : Int32} : ¬ x < y ↔ y ≤ x := Int32.not_lt
theorem e_balM {h : HS} (V : VN h) (Y : VY h) (d : Int32) (dc : Decidable (Bm h d)) : fX12_isBalanced d h = some (if Bm h d then 1 else 0, h) := by
  unfold fX12_isBalanced
  rw [e_heavyM V Y, bd_s]
  by_cases h1 : gI h 8 0 < iabs (Hm h d)
  · rw [if_pos h1, if_neg]
    exact fun q => absurd h1 (Int32.not_lt.mpr q.1)
  · rw [if_neg h1, e_momM0 V, bd_s]
    by_cases h2 : gI h 8 1 < iabs (Mm h)
    · rw [if_pos h2, if_neg]
      exact fun q => absurd h2 (Int32.not_lt.mpr q.2.1)
    · rw [if_neg h2, e_momM1 V (by decide), bd_s]
      by_cases h3 : gI h 8 2 < iabs (Tm h)
      · rw [if_pos h3, if_neg]
        exact fun q => absurd h3 (Int32.not_lt.mpr q.2.2)
      · rw [if_neg h3, if_pos ⟨Int32.not_lt.mp h1, Int32.not_lt.mp h2, Int32.not_lt.mp h3⟩]
/-- of the class -/
def nC (h : HS) : Nat := (gI h 2 8).toNatClampNeg
def Wc (h : HS) : Int32 := wV (gI h 1 2) (gI h 30) (nC h)
def Mc (h : HS) : Int32 := mV (gI h 1 3) (gI h 27) (gI h 30) (nC h)
def Tc (h : HS) : Int32 := mV (gI h 1 4) (gI h 28) (gI h 30) (nC h)
def nYc (h : HS) : Nat := (gI h 3 2).toNatClampNeg
def Dc (h : HS) (d : Int32) : Int32 := dV (gI h 33) (gI h 34) (nYc h) d
def Lc (h : HS) (d : Int32) : Int32 := lV (gI h 3 3) (gI h 3 4) (gI h 33) (gI h 34) (nYc h) d
def Hc (h : HS) (d : Int32) : Int32 := Wc h - Lc h d
def Bc (h : HS) (d : Int32) : Prop := iabs (Hc h d) ≤ gI h 17 0 ∧ iabs (Mc h) ≤ gI h 17 1 ∧ iabs (Tc h) ≤ gI h 17 2
def VNc (h : HS) : Prop := nC h ≤ 15 ∧ gI h 2 8 = nI (nC h)
def VYc (h : HS) : Prop := nYc h ≤ 6 ∧ gI h 3 2 = nI (nYc h) ∧ ∀ i j, i < j → j < nYc h → gI h 33 i < gI h 33 j
theorem e_lweightC {h : HS} (V : VNc h) : fX4_weight h = some (sR (gI h 30) 0 (nC h), h) := by
  unfold fX4_weight
  have e0 : fX4_weight_4 FU 0 0 h = fX4_weight_4 FU 0 (nI 0) h := by rw [nI_0]
  rw [e0, l_weightC V.1 V.2 (nC h) 0 (by omega) FU (FU_gt (by have := V.1; omega)), i32_za]
theorem e_weightC {h : HS} (V : VNc h) : fX0_weightNow h = some (Wc h, h) := by
  unfold fX0_weightNow
  rw [e_lweightC V, bd_s]
  rfl
theorem e_momC {h : HS} (V : VNc h) : fX0_momentNow h = some (Mc h, h) := by
  unfold fX0_momentNow fX4_momentSum
  have e0 : fX4_momentSum_4 FU 0 0 h = fX4_momentSum_4 FU 0 (nI 0) h := by rw [nI_0]
  rw [e0, l_momC V.1 V.2 (nC h) 0 (by omega) FU (FU_gt (by have := V.1; omega)), i32_za, bd_s]
  rfl
theorem e_listC {h : HS} (V : VNc h) : fX0_listNow h = some (Tc h, h) := by
  unfold fX0_listNow fX4_listSum
  have e0 : fX4_listSum_4 FU 0 0 h = fX4_listSum_4 FU 0 (nI 0) h := by rw [nI_0]
  rw [e0, l_listC V.1 V.2 (nC h) 0 (by omega) FU (FU_gt (by have := V.1; omega)), i32_za, bd_s]
  rfl
theorem e_densC {h : HS} (V : VYc h) (d : Int32) : fX10_densityAt d h = some (Dc h d, h) := by
  unfold fX10_densityAt
  have e0 : fX10_densityAt_6 FU d 1000 0 h = fX10_densityAt_6 FU d 1000 (nI 0) h := by rw [nI_0]
  rw [e0, l_densC V.1 V.2.1 V.2.2 d (nYc h) 0 (by omega) FU (FU_gt (by have := V.1; omega))]
  rfl
theorem e_liftC {h : HS} (V : VYc h) (d : Int32) : fX10_liftAt d h = some (Lc h d, h) := by
  unfold fX10_liftAt
  rw [e_densC V, bd_s]
  rfl
theorem e_heavyC {h : HS} (V : VNc h) (Y : VYc h) (d : Int32) : fX0_heavyAt d h = some (Hc h d, h) := by
  unfold fX0_heavyAt
  rw [e_weightC V, bd_s, e_liftC Y, bd_s]
  rfl
theorem e_levC {h : HS} (V : VNc h) (dc : Decidable (iabs (Mc h) ≤ gI h 17 1 ∧ iabs (Tc h) ≤ gI h 17 2)) : fX0_isLevel h = some (if iabs (Mc h) ≤ gI h 17 1 ∧ iabs (Tc h) ≤ gI h 17 2 then 1 else 0, h) := by
  unfold fX0_isLevel
  rw [e_momC V, bd_s]
  by_cases h2 : gI h 17 1 < iabs (Mc h)
  · rw [if_pos h2, if_neg]
    exact fun q => absurd h2 (Int32.not_lt.mpr q.1)
  · rw [if_neg h2, e_listC V, bd_s]
    by_cases h3 : gI h 17 2 < iabs (Tc h)
    · rw [if_pos h3, if_neg]
      exact fun q => absurd h3 (Int32.not_lt.mpr q.2)
    · rw [if_neg h3, if_pos ⟨Int32.not_lt.mp h2, Int32.not_lt.mp h3⟩]
theorem e_balC {h : HS} (V : VNc h) (Y : VYc h) (d : Int32) (dc : Decidable (Bc h d)) : fX0_isBalanced d h = some (if Bc h d then 1 else 0, h) := by
  unfold fX0_isBalanced
  rw [e_heavyC V Y, bd_s]
  by_cases h1 : gI h 17 0 < iabs (Hc h d)
  · rw [if_pos h1, if_neg]
    exact fun q => absurd h1 (Int32.not_lt.mpr q.1)
  · rw [if_neg h1, e_levC V inferInstance, bd_s]
    by_cases h2 : iabs (Mc h) ≤ gI h 17 1 ∧ iabs (Tc h) ≤ gI h 17 2
    · rw [if_pos h2, if_neg (by decide), if_pos ⟨Int32.not_lt.mp h1, h2⟩]
    · rw [if_neg h2, if_pos rfl, if_neg (fun q => h2 q.2)]
