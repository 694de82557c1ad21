section FIT
variable {hc hm : HS}
/-- how far a telling is from a gauge -/
def FF (hc : HS) (t g : Nat) : Int32 := iabs (tlV hc t (gI hc 59 g) (gI hc 60 g) (gI hc 61 g).toNatClampNeg - gI hc 62 g)
theorem tlV_cg {hc' : HS} (s : ∀ b j, ¬ b = 4 → ¬ b = 35 → gI hc' b j = gI hc b j) (t : Nat) (hour d : Int32) (w : Nat) : tlV hc' t hour d w = tlV hc t hour d w := by
  have f : ∀ b, ¬ b = 4 → ¬ b = 35 → gI hc' b = gI hc b := fun b h1 h2 => funext fun j => s b j h1 h2
  have n1 : nC hc' = nC hc := by show (gI hc' 2 8).toNatClampNeg = (gI hc 2 8).toNatClampNeg; rw [f 2 (by decide) (by decide)]
  have n2 : nYc hc' = nYc hc := by show (gI hc' 3 2).toNatClampNeg = (gI hc 3 2).toNatClampNeg; rw [f 3 (by decide) (by decide)]
  unfold tlV NwC Hc Wc Mc Tc Lc rowMo rowHo
  rw [n1, n2, f 1 (by decide) (by decide), f 30 (by decide) (by decide), f 27 (by decide) (by decide), f 28 (by decide) (by decide), f 3 (by decide) (by decide), f 33 (by decide) (by decide), f 34 (by decide) (by decide), f 46 (by decide) (by decide), f 47 (by decide) (by decide), f 48 (by decide) (by decide), f 49 (by decide) (by decide), f 50 (by decide) (by decide), f 51 (by decide) (by decide), f 53 (by decide) (by decide), f 54 (by decide) (by decide), f 55 (by decide) (by decide), f 56 (by decide) (by decide), f 57 (by decide) (by decide), f 58 (by decide) (by decide)]
theorem FF_cg {hc' : HS} (s : ∀ b j, ¬ b = 4 → ¬ b = 35 → gI hc' b j = gI hc b j) (t g : Nat) : FF hc' t g = FF hc t g := by
  unfold FF
  rw [tlV_cg s, s 59 g (by decide) (by decide), s 60 g (by decide) (by decide), s 61 g (by decide) (by decide), s 62 g (by decide) (by decide)]
/-- tellings and gauges by their numbers -/
theorem RR_tg (H : RR hc hm) : ∃ q G, q ≤ 6 ∧ G ≤ 12 ∧ gI hm 0 50 = nI q ∧ gI hc 8 3 = nI q ∧ gI hm 0 53 = nI G ∧ gI hc 8 6 = nI G ∧ (∀ g, g < G → ∃ w, w < 3 ∧ gI hc 61 g = nI w ∧ gI hm 26 g = nI w) ∧ (∀ g, gI hm 24 g = gI hc 59 g ∧ gI hm 25 g = gI hc 60 g ∧ gI hm 27 g = gI hc 62 g) := by
  obtain ⟨g1, g2, g3, g4, g5, g6, ⟨q, hq6, eq, -⟩, G, hG, eG, rg⟩ := H.1.2.2.2.2.2.2.1
  refine ⟨q, G, hq6, hG, eq, g1.trans eq, eG, g2.trans eG, fun g hg => ?_, fun g => ⟨(g3 g).symm, (g4 g).symm, (g6 g).symm⟩⟩
  obtain ⟨-, -, r⟩ := rg g hg
  exact ⟨(gI hm 26 g).toInt.toNat, by omega, (g5 g).trans (i32_eqI (by omega)), i32_eqI (by omega)⟩
theorem far_C (H : RR hc hm) {t g q G : Nat} (ht : t < 6) (hg : g < 12) (hw : ∃ w, w < 3 ∧ gI hc 61 g = nI w) : fX9_farFrom (nI g) (nI t) hc = some (FF hc t g, hc) := by
  obtain ⟨w, w3, ew⟩ := hw
  unfold fX9_farFrom FF
  simp only [inb_n hg (show 12 < 2 ^ 31 by omega), ck_t, nI_clamp (show g < 2 ^ 31 by omega), ew, tld_C H ht w3, bd_s, nI_clamp (show w < 2 ^ 31 by omega)]
theorem l_farC (H : RR hc hm) {t G : Nat} (ht : t < 6) (hG : G ≤ 12) (e : gI hc 8 6 = nI G) (hw : ∀ g, g < G → ∃ w, w < 3 ∧ gI hc 61 g = nI w) : ∀ (k g : Nat), g + k = G → ∀ n, k < n → ∀ s : Int32, fX9_farFromGauges_4 n (nI t) s (nI g) hc = some (s + sR (FF hc t) g k, hc) := by
  intro k
  induction k with
  | zero =>
    intro g hg n hn s
    obtain ⟨m, rfl⟩ := fuel1 hn
    rw [fX9_farFromGauges_4, e, if_pos (nI_le (by omega) (by omega))]
    simp [sR]
  | succ k ih =>
    intro g hg n hn s
    obtain ⟨m, rfl⟩ := fuel1 hn
    rw [fX9_farFromGauges_4, e, if_neg (nI_ge (by omega) (by omega)), far_C (q := 0) (G := 0) H ht (by omega) (hw g (by omega)), bd_s, nm_e1, nm_e1, nI_1, ih (g + 1) (by omega) m (by omega), sR, Int32.add_assoc]
/-- whether all gauges let it be -/
def fitV (wi : Int32) (f : Nat → Int32) : Nat → Nat → Int32 → Int32
  | _, 0, v => v
  | g, k + 1, v => fitV wi f (g + 1) k (if v = 0 then 0 else if wi < f g then 0 else 1)
def addB (v2 : Int32) (t : Nat) (F : Int32) : Int32 := v2 ||| (if F = 0 then 0 else (1 : Int32) <<< (nI t &&& 31))
theorem l_fitC (H : RR hc hm) {t G : Nat} (ht : t < 6) (hG : G ≤ 12) (e : gI hc 8 6 = nI G) (hw : ∀ g, g < G → ∃ w, w < 3 ∧ gI hc 61 g = nI w) (K : Int32 → Int32 → Int32 → HS → Option (Int32 × HS)) (wi v2 : Int32) : ∀ (k g : Nat), g + k = G → ∀ n, k < n → ∀ v4 : Int32, fX9_fitting_18 K n wi v2 (nI t) v4 (nI g) hc = K wi (addB v2 t (fitV wi (FF hc t) g k v4)) (nI (t + 1)) hc := by
  intro k
  induction k with
  | zero =>
    intro g hg n hn v4
    obtain ⟨m, rfl⟩ := fuel1 hn
    rw [fX9_fitting_18, e, if_pos (nI_le (by omega) (by omega))]
    have hf : fitV wi (FF hc t) g 0 v4 = v4 := rfl
    rw [hf]
    unfold fX9_fitting_69 addB
    simp only [nm_e1, nI_1]
    by_cases c : v4 = 0
    · rw [if_pos c, if_pos c]
    · rw [if_neg c, if_neg c]
  | succ k ih =>
    intro g hg n hn v4
    obtain ⟨m, rfl⟩ := fuel1 hn
    rw [fX9_fitting_18, e, if_neg (nI_ge (by omega) (by omega)), far_C (q := 0) (G := 0) H ht (by omega) (hw g (by omega)), bd_s]
    unfold fX9_fitting_47 fX9_fitting_48
    simp only [nm_e1, nI_1, ih (g + 1) (by omega) m (by omega), fitV]
    by_cases c1 : v4 = 0
    · rw [if_pos c1, if_pos c1]
    · rw [if_neg c1, if_neg c1]
      by_cases c2 : wi < FF hc t g
      · rw [if_pos c2, if_pos c2]
      · rw [if_neg c2, if_neg c2]
def bitsV (hc : HS) (wi : Int32) (G : Nat) : Nat → Nat → Int32 → Int32
  | _, 0, v => v
  | t, k + 1, v => bitsV hc wi G (t + 1) k (addB v t (fitV wi (FF hc t) 0 G 1))
theorem e_fitC (H : RR hc hm) {q G : Nat} (hq : q ≤ 6) (hG : G ≤ 12) (eq : gI hc 8 3 = nI q) (e : gI hc 8 6 = nI G) (hw : ∀ g, g < G → ∃ w, w < 3 ∧ gI hc 61 g = nI w) (wi : Int32) : fX9_fitting wi hc = some (bitsV hc wi G 0 q 0, hc) := by
  have key : ∀ (k t : Nat), t + k = q → ∀ n, k < n → ∀ v2 : Int32, fX9_fitting_4 n wi v2 (nI t) hc = some (bitsV hc wi G t k v2, hc) := by
    intro k
    induction k with
    | zero =>
      intro t ht n hn v2
      obtain ⟨m, rfl⟩ := fuel1 hn
      rw [fX9_fitting_4, eq, if_pos (nI_le (by omega) (by omega))]
      rfl
    | succ k ih =>
      intro t ht n hn v2
      obtain ⟨m, rfl⟩ := fuel1 hn
      have := l_fitC H (t := t) (by omega) hG e hw (fX9_fitting_4 m) wi v2 G 0 (by omega) FU (FU_gt (by omega)) 1
      rw [nI_0] at this
      rw [fX9_fitting_4, eq, if_neg (nI_ge (by omega) (by omega)), this, ih (t + 1) (by omega) m (by omega)]
      rfl
  unfold fX9_fitting
  have := key q 0 (by omega) FU (FU_gt (by omega)) 0
  rw [nI_0] at this
  exact this
def exL (h h' : HS) : Prop := ∀ b j, ¬ b = 11 → ¬ b = 28 → ¬ b = 29 → ¬ (b = 0 ∧ j = 24) → gI h' b j = gI h b j
theorem RR_exL {hm' : HS} (s : exL hm hm') (e : gI hm' 0 24 = 0) (H : RR hc hm) : RR hc hm' := RR_cg cg_rf (fun b j q => by
  by_cases z : b = 0 ∧ j = 24
  · rw [z.1, z.2, e, H.2.2]
  · exact s b j (by rintro rfl; cases q) (by rintro rfl; cases q) (by rintro rfl; cases q) z) H
theorem exL_t {h h1 h2 : HS} (a : exL h h1) (b : exL h1 h2) : exL h h2 := fun x j z1 z2 z3 z4 => (b x j z1 z2 z3 z4).trans (a x j z1 z2 z3 z4)
theorem l_letM {q G t : Nat} (hq : q ≤ 6) (hG : G ≤ 12) (ht : t < q) (hw : ∀ g, g < G → ∃ w, w < 3 ∧ gI hc 61 g = nI w) (K : Int32 → Int32 → Int32 → HS → Option (Int32 × HS)) (wi v2 : Int32) : ∀ (k g : Nat) (h : HS), g + k = G → RR hc h → gI h 0 50 = nI q → gI h 0 53 = nI G → ∀ n, k < n → ∀ v4 : Int32, ∃ h', fX12_letting_25 K n wi v2 (nI t) v4 (nI g) h = K wi (addB v2 t (fitV wi (FF hc t) g k v4)) (nI (t + 1)) h' ∧ exL h h' ∧ gI h' 0 24 = 0 ∧ gI h' 28 t = gI h 28 t + sR (FF hc t) g k ∧ (∀ j, ¬ j = t → gI h' 28 j = gI h 28 j) := by
  intro k
  induction k with
  | zero =>
    intro g h hg H eq e n hn v4
    obtain ⟨m, rfl⟩ := fuel1 hn
    refine ⟨h, ?_, fun _ _ _ _ _ _ => rfl, H.2.2, by simp [sR], fun _ _ => rfl⟩
    rw [fX12_letting_25, e, if_pos (nI_le (by omega) (by omega))]
    have hf : fitV wi (FF hc t) g 0 v4 = v4 := rfl
    rw [hf]
    unfold fX12_letting_121 addB
    simp only [nm_e1, nI_1]
    by_cases c : v4 = 0
    · rw [if_pos c, if_pos c]
    · rw [if_neg c, if_neg c]
  | succ k ih =>
    intro g h hg H eq e n hn v4
    obtain ⟨m, rfl⟩ := fuel1 hn
    obtain ⟨w, w3, ew⟩ := hw g (by omega)
    obtain ⟨q', G', -, -, -, -, -, -, -, r2⟩ := RR_tg H
    obtain ⟨r3, r4, r5⟩ := r2 g
    have e26 : gI h 26 g = nI w := by rw [← H.1.2.2.2.2.2.2.1.2.2.2.2.1 g]; exact ew
    obtain ⟨h9, a1, a2, a3⟩ := told_M H eq hq ht w3 (gI hc 59 g) (gI hc 60 g)
    have g27 : gI h9 27 g = gI hc 62 g := (a2 27 g (by decide) (by omega)).trans r5
    have fe : iabs (tlV hc t (gI hc 59 g) (gI hc 60 g) w - gI hc 62 g) = FF hc t g := by unfold FF; rw [ew, nI_clamp (by omega)]
    have H9 := RR_exP a2 a3 H
    have ex14 : exL h (pI h9 28 t (gI h9 28 t + FF hc t g)) := fun b j z1 z2 z3 z4 => by rw [gI_pI, if_neg (fun y => z2 y.1)]; exact a2 b j z1 z4
    have H14 : RR hc (pI h9 28 t (gI h9 28 t + FF hc t g)) := RR_exL ex14 (by rw [gI_pI, if_neg (by omega)]; exact a3) H
    rw [fX12_letting_25, e, if_neg (nI_ge (by omega) (by omega))]
    simp only [inb_n (show g < 12 by omega) (by omega), inb_n (show t < 6 by omega) (by omega), ck_t, nI_clamp (show g < 2 ^ 31 by omega), nI_clamp (show t < 2 ^ 31 by omega), r3, r4, e26, a1, bd_s, nm_e1, g27, fe]
    unfold fX12_letting_99 fX12_letting_100
    simp only [nm_e1, nI_1]
    have go : ∀ v : Int32, ∃ h', fX12_letting_25 K m wi v2 (nI t) v (nI (g + 1)) (pI h9 28 t (gI h9 28 t + FF hc t g)) = K wi (addB v2 t (fitV wi (FF hc t) (g + 1) k v)) (nI (t + 1)) h' ∧ exL h h' ∧ gI h' 0 24 = 0 ∧ gI h' 28 t = gI h 28 t + sR (FF hc t) g (k + 1) ∧ (∀ j, ¬ j = t → gI h' 28 j = gI h 28 j) := by
      intro v
      obtain ⟨h', b1, b2, b3, b4, b5⟩ := ih (g + 1) _ (by omega) H14 (by rw [gI_pI, if_neg (by omega), a2 0 50 (by decide) (by decide)]; exact eq) (by rw [gI_pI, if_neg (by omega), a2 0 53 (by decide) (by decide)]; exact e) m (by omega) v
      refine ⟨h', b1, exL_t ex14 b2, b3, ?_, fun j hj => ?_⟩
      · rw [b4, gI_pI, if_pos ⟨rfl, rfl⟩, a2 28 t (by decide) (by omega), sR, Int32.add_assoc]
      · rw [b5 j hj, gI_pI, if_neg (fun z => hj z.2), a2 28 j (by decide) (by omega)]
    rw [fitV]
    by_cases c1 : v4 = 0
    · rw [if_pos c1, if_pos c1]; exact go 0
    · rw [if_neg c1, if_neg c1]
      by_cases c2 : wi < FF hc t g
      · rw [if_pos c2, if_pos c2]; exact go 0
      · rw [if_neg c2, if_neg c2]; exact go 1
theorem e_letM (H : RR hc hm) {q G : Nat} (hq : q ≤ 6) (hG : G ≤ 12) (eq : gI hm 0 50 = nI q) (e : gI hm 0 53 = nI G) (hw : ∀ g, g < G → ∃ w, w < 3 ∧ gI hc 61 g = nI w) (wi : Int32) : ∃ h', fX12_letting wi hm = some (bitsV hc wi G 0 q 0, h') ∧ exL hm h' ∧ gI h' 0 24 = 0 ∧ (∀ t, t < q → gI h' 28 t = sR (FF hc t) 0 G) := by
  have key : ∀ (k t : Nat) (h : HS), t + k = q → RR hc h → gI h 0 50 = nI q → gI h 0 53 = nI G → (∀ j, j < t → gI h 28 j = sR (FF hc j) 0 G) → ∀ n, k < n → ∀ v2 : Int32, ∃ h', fX12_letting_4 n wi v2 (nI t) h = some (bitsV hc wi G t k v2, h') ∧ exL h h' ∧ gI h' 0 24 = 0 ∧ (∀ j, j < q → gI h' 28 j = sR (FF hc j) 0 G) := by
    intro k
    induction k with
    | zero =>
      intro t h ht H eq e hd n hn v2
      obtain ⟨m, rfl⟩ := fuel1 hn
      refine ⟨h, ?_, fun _ _ _ _ _ _ => rfl, H.2.2, fun j hj => hd j (by omega)⟩
      rw [fX12_letting_4, eq, if_pos (nI_le (by omega) (by omega))]
      rfl
    | succ k ih =>
      intro t h ht H eq e hd n hn v2
      obtain ⟨m, rfl⟩ := fuel1 hn
      have ex0 : exL h (pI h 28 t 0) := fun b j _ z2 _ _ => by rw [gI_pI, if_neg (fun y => z2 y.1)]
      have H0 : RR hc (pI h 28 t 0) := RR_exL ex0 (by rw [gI_pI, if_neg (by omega)]; exact H.2.2) H
      obtain ⟨h1, a1, a2, a3, a4, a5⟩ := l_letM (t := t) hq hG (by omega) hw (fX12_letting_4 m) wi v2 G 0 (pI h 28 t 0) (by omega) H0 (by rw [gI_pI, if_neg (by omega)]; exact eq) (by rw [gI_pI, if_neg (by omega)]; exact e) FU (FU_gt (by omega)) 1
      rw [nI_0] at a1
      have H1 := RR_exL a2 a3 H0
      obtain ⟨h', b1, b2, b3, b4⟩ := ih (t + 1) h1 (by omega) H1 (by rw [a2 0 50 (by decide) (by decide) (by decide) (by decide), ex0 0 50 (by decide) (by decide) (by decide) (by decide)]; exact eq) (by rw [a2 0 53 (by decide) (by decide) (by decide) (by decide), ex0 0 53 (by decide) (by decide) (by decide) (by decide)]; exact e) (fun j hj => by
        by_cases z : j = t
        · subst z
          rw [a4, gI_pI, if_pos ⟨rfl, rfl⟩, Int32.zero_add]
        · rw [a5 j z, gI_pI, if_neg (fun y => z y.2)]
          exact hd j (by omega)) m (by omega) (addB v2 t (fitV wi (FF hc t) 0 G 1))
      refine ⟨h', ?_, exL_t (exL_t ex0 a2) b2, b3, b4⟩
      rw [fX12_letting_4, eq, if_neg (nI_ge (by omega) (by omega)), inb_n (show t < 6 by omega) (by omega), ck_t, nI_clamp (by omega), nm_e1, a1]
      exact b1
  unfold fX12_letting
  have := key q 0 hm (by omega) H eq e (fun j hj => by omega) FU (FU_gt (by omega)) 0
  rw [nI_0] at this
  exact this
theorem bits_cg {hc' : HS} (s : ∀ b j, ¬ b = 4 → ¬ b = 35 → gI hc' b j = gI hc b j) (wi : Int32) (G : Nat) : ∀ (k t : Nat) (v : Int32), bitsV hc' wi G t k v = bitsV hc wi G t k v
  | 0, _, _ => rfl
  | k + 1, t, v => by rw [bitsV, bitsV, show FF hc' t = FF hc t from funext fun g => FF_cg s t g, bits_cg s wi G k (t + 1)]
theorem op_fits (H : RR hc hm) (p1 : Int32) : OK2 (fX11_fits p1 hc) (fX12_fits p1 hm) := by
  have H2 := RR_thrown 0 H
  simp only [fX11_fits, fX12_fits, nm_e1, f_between, f_in, bd_s, if10s]
  refine OK2_if (fun c1 => ?_) (fun _ => OK2_c H2)
  generalize pI hm 0 22 0 = h0 at *
  obtain ⟨q, G, hq, hG, eq, eqc, eG, eGc, hw, -⟩ := RR_tg H2
  have hw' : ∀ g, g < G → ∃ w, w < 3 ∧ gI hc 61 g = nI w := fun g hg => by obtain ⟨w, y1, y2, -⟩ := hw g hg; exact ⟨w, y1, y2⟩
  obtain ⟨h1, a1, a2, a3, a4⟩ := e_letM H2 hq hG eq eG hw' p1
  have H1 := RR_exL a2 a3 H2
  obtain ⟨r1, r2, r3⟩ := row0 H1
  rw [a1, bd_s, r1, bv_s]
  have key : ∀ (k t : Nat) (hcx hx : HS), RR hcx hx → t + k = q → gI hx 0 21 = nI t → (∀ b j, ¬ b = 4 → ¬ b = 35 → gI hcx b j = gI hc b j) → (∀ b j, ¬ b = 10 → ¬ (b = 0 ∧ j = 21) → gI hx b j = gI h1 b j) → ∀ n m, k < n → k < m → OK2 (fX11_fits_21 n p1 (nI t) hcx) (fX12_fits_30 m (bitsV hc p1 G 0 q 0) (nI t) hx) := by
    intro k
    induction k with
    | zero =>
      intro t hcx hx Hx ht er sc sm n m hn hm1
      obtain ⟨n', rfl⟩ := fuel1 hn
      obtain ⟨m', rfl⟩ := fuel1 hm1
      rw [fX11_fits_21, fX12_fits_30, sc 8 3 (by decide) (by decide), eqc, sm 0 50 (by decide) (by decide), a2 0 50 (by decide) (by decide) (by decide) (by decide), eq, if_pos (nI_le (by omega) (by omega)), if_pos (nI_le (by omega) (by omega)), e_fitC Hx hq hG (by rw [sc 8 3 (by decide) (by decide)]; exact eqc) (by rw [sc 8 6 (by decide) (by decide)]; exact eGc) (fun g hg => by rw [sc 61 g (by decide) (by decide)]; exact hw' g hg), bd_s, bits_cg sc]
      exact OK2_c Hx
    | succ k ih =>
      intro t hcx hx Hx ht er sc sm n m hn hm1
      obtain ⟨n', rfl⟩ := fuel1 hn
      obtain ⟨m', rfl⟩ := fuel1 hm1
      have fc := l_farC Hx (t := t) (by omega) hG (by rw [sc 8 6 (by decide) (by decide)]; exact eGc) (fun g hg => by rw [sc 61 g (by decide) (by decide)]; exact hw' g hg) G 0 (by omega) FU (FU_gt (by omega)) 0
      rw [nI_0, Int32.zero_add, show FF hcx t = FF hc t from funext fun g => FF_cg sc t g] at fc
      obtain ⟨b1, b2, b3, b4⟩ := row1 Hx er (by omega) (sR (FF hc t) 0 G)
      unfold fX9_farFromGauges at *
      rw [fX11_fits_21, fX12_fits_30, sc 8 3 (by decide) (by decide), eqc, sm 0 50 (by decide) (by decide), a2 0 50 (by decide) (by decide) (by decide) (by decide), eq, if_neg (nI_ge (by omega) (by omega)), if_neg (nI_ge (by omega) (by omega)), inb_n (show t < 6 by omega) (by omega), ck_t, nI_clamp (by omega), sm 28 t (by decide) (by omega), a4 t (by omega)]
      unfold fX9_farFromGauges
      rw [fc, bd_s, b1, bv_s, b2, bv_s, nm_e1, nm_e1, nI_1]
      refine ih (t + 1) _ _ b3 (by omega) b4 (fun b j z1 z2 => ?_) (fun b j z1 z2 => ?_) n' m' (by omega) (by omega)
      · rw [gI_pI, if_neg (fun y => z1 y.1), gI_pI, if_neg (fun y => z2 y.1), sc b j z1 z2]
      · rw [gI_pI, if_neg z2, gI_pI, if_neg (fun y => z1 y.1), sm b j z1 z2]
  have k0 := key q 0 _ _ r2 (by omega) r3 (fun b j z1 _ => by rw [gI_pI, if_neg (fun y => z1 y.1)]) (fun b j _ z2 => by rw [gI_pI, if_neg z2]) FU FU (FU_gt (by omega)) (FU_gt (by omega))
  rw [nI_0] at k0
  exact k0
end FIT
