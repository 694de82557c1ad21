section TLD
variable {hc hm : HS}
/-- a number now: heavy, moment or list -/
def Nw (h : HS) (w : Nat) (d : Int32) : Int32 := if w = 0 then Hm h d else if w = 1 then Mm h else Tm h
def NwC (h : HS) (w : Nat) (d : Int32) : Int32 := if w = 0 then Hc h d else if w = 1 then Mc h else Tc h
theorem RR_Nw (H : RR hc hm) (w : Nat) (d : Int32) : NwC hc w d = Nw hm w d := by
  unfold NwC Nw
  rw [RR_Hc H, RR_Mc H, RR_Tc H]
theorem Nw_set {h h' : HS} {a : Nat} (ha : a < nLd h) (s : ∀ b j, ¬ (b = 5 ∧ j = a) → ¬ b = 11 → ¬ (b = 0 ∧ j = 24) → gI h' b j = gI h b j) {w : Nat} (hw : w < 3) (d : Int32) : Nw h' w d = Nw h w d + cW h w a * (gI h' 5 a - gI h 5 a) ∧ nLd h' = nLd h ∧ (VN h → VN h') ∧ (VY h → VY h') := by
  obtain ⟨a1, a2, a3, a4, -, -⟩ := sm_M (h := h) (h' := h') (s _ _ (by omega) (by decide) (by decide)) (s _ _ (by omega) (by decide) (by decide)) (s _ _ (by omega) (by decide) (by decide)) (s _ _ (by omega) (by decide) (by decide)) (s _ _ (by omega) (by decide) (by decide)) (s _ _ (by omega) (by decide) (by decide)) (s _ _ (by omega) (by decide) (by decide)) (fun j => s _ _ (by omega) (by decide) (by omega)) (fun j => s _ _ (by omega) (by decide) (by omega)) (fun j => s _ _ (by omega) (by decide) (by omega)) (fun j => s _ _ (by omega) (by decide) (by omega))
  have f2 : gI h' 2 = gI h 2 := funext fun j => s _ _ (by omega) (by decide) (by omega)
  have f3 : gI h' 3 = gI h 3 := funext fun j => s _ _ (by omega) (by decide) (by omega)
  have f5 : ∀ j, ¬ j = a → gI h' 5 j = gI h 5 j := fun j hj => s _ _ (fun z => hj z.2) (by decide) (by omega)
  refine ⟨?_, a1, a2, a3⟩
  unfold Nw cW
  have : w = 0 ∨ w = 1 ∨ w = 2 := by omega
  rcases this with rfl | rfl | rfl
  · rw [if_pos rfl, if_pos rfl, if_pos rfl]
    unfold Hm Wm
    rw [a1, a4, wV_set f5 ha, s 0 6 (by omega) (by decide) (by decide)]
    grind
  · rw [if_neg (by decide), if_pos rfl, if_neg (by decide), if_pos rfl, if_neg (by decide), if_pos rfl]
    unfold Mm
    rw [a1, f2, mV_set f5 ha, s 0 7 (by omega) (by decide) (by decide)]
  · rw [if_neg (by decide), if_neg (by decide), if_neg (by decide), if_neg (by decide), if_neg (by decide), if_neg (by decide)]
    unfold Tm
    rw [a1, f3, mV_set f5 ha, s 0 8 (by omega) (by decide) (by decide)]
theorem told_loop {h1 : HS} {t m w : Nat} (ht : t < 6) (hm16 : m ≤ 16) (hw : w < 3) (h15 : nLd h1 ≤ 15) (V : VN h1) (Y : VY h1) (em : gI h1 22 t = nI m) (ok : ∀ j, j < m → tOK h1 t j) (hour d : Int32) :
    ∀ (k j : Nat) (h : HS), j + k = m → (∀ b i, ¬ b = 5 → gI h b i = gI h1 b i) → (∀ i, ¬ i < 15 → gI h 5 i = gI h1 5 i) → Nw h w d = Nw h1 w d + sL (moF h1 w t) j + hour * sL (hoF h1 w t) j → ∀ n, k < n → ∃ hE, fX12_toldBy_7 n (nI t) hour d (nI w) (nI j) h = fX12_toldBy_161 (Nw h1 w d + sL (moF h1 w t) m + hour * sL (hoF h1 w t) m) hE ∧ (∀ b i, ¬ b = 5 → gI hE b i = gI h1 b i) ∧ (∀ i, ¬ i < 15 → gI hE 5 i = gI h1 5 i) := by
  intro k
  induction k with
  | zero =>
    intro j h hj s s5 hN n hn
    obtain ⟨n', rfl⟩ := fuel1 hn
    have ej : j = m := by omega
    subst ej
    obtain ⟨-, q2, q3, -, -, -⟩ := sm_M (h := h1) (h' := h) (s _ _ (by decide)) (s _ _ (by decide)) (s _ _ (by decide)) (s _ _ (by decide)) (s _ _ (by decide)) (s _ _ (by decide)) (s _ _ (by decide)) (fun j => s _ _ (by decide)) (fun j => s _ _ (by decide)) (fun j => s _ _ (by decide)) (fun j => s _ _ (by decide))
    refine ⟨h, ?_, s, s5⟩
    rw [fX12_toldBy_7, inb_n ht (by omega), ck_t, nI_clamp (by omega), s 22 t (by decide), em, if_pos (nI_le (by omega) (by omega)), ← hN]
    unfold Nw
    have : w = 0 ∨ w = 1 ∨ w = 2 := by omega
    rcases this with rfl | rfl | rfl
    · rw [nI_0, if_pos rfl, if_pos rfl, e_heavyM (q2 V) (q3 Y), bd_s]
    · rw [if_neg (nI_ne0 (by omega) (by omega)), show nI 1 - 1 = (0 : Int32) by decide, e_momM0 (q2 V), bd_s, if_neg (by decide), if_pos rfl]
    · rw [if_neg (nI_ne0 (by omega) (by omega)), e_momM1 (q2 V) (by decide), bd_s, if_neg (by decide), if_neg (by decide)]
  | succ k ih =>
    intro j h hj s s5 hN n hn
    obtain ⟨n', rfl⟩ := fuel1 hn
    obtain ⟨o1, ⟨a, o2, o3⟩, o4⟩ := ok j (by omega)
    have eN : nLd h = nLd h1 := by show (gI h 0 0).toNatClampNeg = (gI h1 0 0).toNatClampNeg; rw [s 0 0 (by decide)]
    have cwe : ∀ x, cW h w x = cW h1 w x := fun x => by unfold cW; rw [s 2 x (by decide), s 3 x (by decide)]
    have e4 : (4 : Int32) * (16 * nI t + nI j) = nI (4 * (16 * t + j)) := by rw [show (16 : Int32) = nI 16 by decide, show (4 : Int32) = nI 4 by decide, pk_mul, nI_add, pk_mul]
    have b0 : 4 * (16 * t + j) + 3 < 384 := by omega
    have e1 : nI (4 * (16 * t + j)) + 1 = nI (4 * (16 * t + j) + 1) := nI_1 _
    have e2 : nI (4 * (16 * t + j)) + 2 = nI (4 * (16 * t + j) + 2) := by rw [show (2 : Int32) = nI 2 by decide, nI_add]
    have e3 : nI (4 * (16 * t + j)) + 3 = nI (4 * (16 * t + j) + 3) := by rw [show (3 : Int32) = nI 3 by decide, nI_add]
    have g0 : ∀ h' : HS, (∀ b i, ¬ b = 5 → gI h' b i = gI h1 b i) → gI h' 23 (4 * (16 * t + j)) = tS h1 t j := fun h' s' => s' 23 _ (by decide)
    have g1 : gI h 23 (4 * (16 * t + j) + 1) = nI a := (s 23 _ (by decide)).trans o3
    have g3 : gI h 23 (4 * (16 * t + j) + 3) = tV h1 t j := s 23 _ (by decide)
    have sMo : sL (moF h1 w t) (j + 1) = sL (moF h1 w t) j + moF h1 w t j := rfl
    have sHo : sL (hoF h1 w t) (j + 1) = sL (hoF h1 w t) j + hoF h1 w t j := rfl
    have sp : ∀ x v b i, ¬ b = 5 → gI (pI h 5 x v) b i = gI h1 b i := fun x v b i hb => by rw [gI_pI, if_neg (fun z => hb z.1)]; exact s b i hb
    have s5p : ∀ x v, x < 15 → ∀ i, ¬ i < 15 → gI (pI h 5 x v) 5 i = gI h1 5 i := fun x v hx i hi => by rw [gI_pI, if_neg (by omega)]; exact s5 i hi
    have N1 : ∀ v, Nw (pI h 5 a v) w d = Nw h w d + cW h1 w a * (v - gI h 5 a) := fun v => by
      have := (Nw_set (h := h) (h' := pI h 5 a v) (a := a) (by omega) (fun b i z _ _ => by rw [gI_pI, if_neg z]) hw d).1
      rw [gI_pI, if_pos ⟨rfl, rfl⟩, cwe] at this
      exact this
    rw [fX12_toldBy_7, inb_n ht (by omega), ck_t, nI_clamp (by omega), s 22 t (by decide), em, if_neg (nI_ge (by omega) (by omega)), nm_e1, e4, inb_n (show 4 * (16 * t + j) < 384 by omega) (by omega), ck_t, nI_clamp (by omega), g0 h s, e3, inb_n b0 (by omega), ck_t, ck_t, nI_clamp (by omega), g3]
    -- the load takes v, not a valve
    have plain : ∀ v : Int32, ¬ tS h1 t j = 118 → Nw h1 w d + sL (moF h1 w t) (j + 1) + hour * sL (hoF h1 w t) (j + 1) = Nw h w d + cW h1 w a * v → ∃ hE, fX12_toldBy_64 (fX12_toldBy_7 n') (nI t) hour d (nI w) (nI j) (nI (4 * (16 * t + j))) v h = fX12_toldBy_161 (Nw h1 w d + sL (moF h1 w t) m + hour * sL (hoF h1 w t) m) hE ∧ (∀ b i, ¬ b = 5 → gI hE b i = gI h1 b i) ∧ (∀ i, ¬ i < 15 → gI hE 5 i = gI h1 5 i) := by
      intro v nv hv
      have N2 := N1 (gI h 5 a + v)
      unfold fX12_toldBy_64 fX12_toldBy_101
      rw [e1, inb_n (show 4 * (16 * t + j) + 1 < 384 by omega) (by omega), ck_t, nI_clamp (by omega), g1, inb_n (show a < 15 by omega) (by omega), ck_t, inb_n (show 4 * (16 * t + j) < 384 by omega) (by omega), ck_t, nI_clamp (by omega), g0 h s, if_neg nv, ck_t, nI_clamp (by omega), nm_e1, ck_t, g0 _ (sp a _), if_neg nv, nm_e1, nI_1]
      exact ih (j + 1) _ (by omega) (sp a _) (s5p a _ (by omega)) (by rw [N2, hv]; grind) n' (by omega)
    have fa : (tA h1 t j).toNatClampNeg = a := by rw [o3, nI_clamp (by omega)]
    rcases o1 with z | z | z
    · have mj : moF h1 w t j = 0 := by unfold moF; rw [if_neg (by rw [z]; decide)]
      have hj2 : hoF h1 w t j = cW h1 w a * tV h1 t j := by unfold hoF; rw [if_neg (by rw [z]; decide), if_neg (by rw [z]; decide), fa]
      rw [if_neg (by rw [z]; decide)]
      refine plain _ (by rw [z]; decide) ?_
      rw [sMo, sHo, mj, hj2, hN]
      grind
    · obtain ⟨b, y1, y2, y3⟩ := o4 z
      have fb : (tO h1 t j).toNatClampNeg = b := by rw [y2, nI_clamp (by omega)]
      have mj : moF h1 w t j = 0 := by unfold moF; rw [if_neg (by rw [z]; decide)]
      have hj2 : hoF h1 w t j = cW h1 w a * (-tV h1 t j) + cW h1 w b * tV h1 t j := by unfold hoF; rw [if_neg (by rw [z]; decide), if_pos z, fa, fb]
      have g2 : ∀ h' : HS, (∀ b i, ¬ b = 5 → gI h' b i = gI h1 b i) → gI h' 23 (4 * (16 * t + j) + 2) = nI b := fun h' s' => (s' 23 _ (by decide)).trans y2
      rw [if_neg (by rw [z]; decide)]
      generalize hv : tV h1 t j * hour = v
      have N2 := N1 (gI h 5 a + -v)
      have N3 := (Nw_set (h := pI h 5 a (gI h 5 a + -v)) (h' := pI (pI h 5 a (gI h 5 a + -v)) 5 b (gI (pI h 5 a (gI h 5 a + -v)) 5 b + v)) (a := b) (by show b < nLd h; omega) (fun b i z _ _ => by rw [gI_pI, if_neg z]) hw d).1
      rw [gI_pI (pI h 5 a (gI h 5 a + -v)), if_pos ⟨rfl, rfl⟩, show cW (pI h 5 a (gI h 5 a + -v)) w b = cW h1 w b from cwe b] at N3
      have sp2 : ∀ c i, ¬ c = 5 → gI (pI (pI h 5 a (gI h 5 a + -v)) 5 b (gI (pI h 5 a (gI h 5 a + -v)) 5 b + v)) c i = gI h1 c i := fun c i hc => by rw [gI_pI, if_neg (fun z => hc z.1)]; exact sp a _ c i hc
      unfold fX12_toldBy_64 fX12_toldBy_101
      rw [e1, inb_n (show 4 * (16 * t + j) + 1 < 384 by omega) (by omega), ck_t, nI_clamp (by omega), g1, inb_n (show a < 15 by omega) (by omega), ck_t, inb_n (show 4 * (16 * t + j) < 384 by omega) (by omega), ck_t, nI_clamp (by omega), g0 h s, if_pos z, ck_t, nI_clamp (by omega), nm_e1, ck_t, g0 _ (sp a _), if_pos z, e2, inb_n (show 4 * (16 * t + j) + 2 < 384 by omega) (by omega), ck_t, nI_clamp (by omega), g2 _ (sp a _), inb_n (show b < 15 by omega) (by omega), ck_t, ck_t, nI_clamp (by omega), nm_e1, nm_e1, nI_1]
      refine ih (j + 1) _ (by omega) sp2 (fun i hi => by rw [gI_pI, if_neg (by omega)]; exact s5p a _ (by omega) i hi) ?_ n' (by omega)
      rw [N3, N2, hN, sMo, sHo, mj, hj2, ← hv]
      grind
    · have mj : moF h1 w t j = cW h1 w a * tV h1 t j := by unfold moF; rw [if_pos z, fa]
      have hj2 : hoF h1 w t j = 0 := by unfold hoF; rw [if_pos z]
      rw [if_pos z]
      refine plain _ (by rw [z]; decide) ?_
      rw [sMo, sHo, mj, hj2, hN]
      grind
theorem rowMo_pl (h : HS) {t : Nat} (ht : t < 6) : rowMo h t = gI h (46 + t) ∧ rowHo h t = gI h (53 + t) := by
  have : t = 0 ∨ t = 1 ∨ t = 2 ∨ t = 3 ∨ t = 4 ∨ t = 5 := by omega
  unfold rowMo rowHo
  rcases this with rfl | rfl | rfl | rfl | rfl | rfl <;> exact ⟨rfl, rfl⟩
/-- what a telling tells -/
def tlV (hc : HS) (t : Nat) (hour d : Int32) (w : Nat) : Int32 := NwC hc w d + rowMo hc t w + hour * rowHo hc t w
theorem told_M {h : HS} (H : RR hc h) {t q : Nat} (eq : gI h 0 50 = nI q) (hq : q ≤ 6) (ht : t < q) {w : Nat} (hw : w < 3) (hour d : Int32) : ∃ h', fX12_toldBy (nI t) hour d (nI w) h = some (tlV hc t hour d w, h') ∧ exP h h' ∧ gI h' 0 24 = 0 := by
  have h15 := RR_15 H
  obtain ⟨-, -, -, -, -, -, ⟨q', hq6, eq', rg⟩, -⟩ := H.1.2.2.2.2.2.2.1
  have hq' : q' = q := (nI_eq (by omega) (by omega)).mp (eq'.symm.trans eq)
  subst hq'
  obtain ⟨m, hm16, em, ok, sums⟩ := rg t ht
  obtain ⟨h1, a1, a2, a3, a4⟩ := e_push (h := h) (q := 0) (by omega) (by rw [nI_0]; exact H.2.2)
  have ex : exP h h1 := fun b j z1 z2 => a3 b j z1 z2
  obtain ⟨b1, b2, b3, -⟩ := exP_M ex
  have s23 : ∀ j, gI h1 23 j = gI h 23 j := fun j => ex 23 j (by decide) (by omega)
  have okk : ∀ j, j < m → tOK h1 t j := fun j hj => by
    have := ok j hj
    unfold tOK tS tA tO at *
    rw [s23, s23, s23, b1]
    exact this
  have cw1 : ∀ w a, cW h1 w a = cW h w a := fun w a => by unfold cW; rw [ex 2 a (by decide) (by omega), ex 3 a (by decide) (by omega)]
  have mo1 : moF h1 w t = moF h w t := funext fun j => by
    unfold moF tS tA tV
    rw [s23, s23, s23, cw1]
  have ho1 : hoF h1 w t = hoF h w t := funext fun j => by
    unfold hoF tS tA tO tV
    rw [s23, s23, s23, s23, cw1, cw1]
  have nw1 : Nw h1 w d = Nw h w d := by
    obtain ⟨-, -, -, x4, x5, x6, -, -⟩ := exP_M ex
    unfold Nw
    rw [x4, x5, x6]
  obtain ⟨hE, c1, c2, c3⟩ := told_loop (h1 := h1) (t := t) (m := m) (w := w) (by omega) hm16 hw (by omega) (b2 (RR_VN H)) (b3 (RR_VY H)) (by rw [ex 22 t (by decide) (by omega)]; exact em) okk hour d m 0 h1 (by omega) (fun _ _ _ => rfl) (fun _ _ => rfl) (by show _ = _ + 0 + hour * 0; rw [Int32.mul_zero, Int32.add_zero, Int32.add_zero]) FU (FU_gt (by omega))
  rw [nI_0, nw1, mo1, ho1, ← (sums w hw).1, ← (sums w hw).2, ← RR_Nw H] at c1
  obtain ⟨h3, k1, k2, k3, k4, k5⟩ := br_pp (h := h) (h1 := h1) (h2 := hE) (q := 0) (by omega) a4 (by rw [c2 0 24 (by decide)]; exact a2) (fun j => c2 11 j (by decide)) (fun j hj => by rw [c3 j hj]; exact ex 5 j (by decide) (by omega))
  refine ⟨h3, ?_, fun b j z1 z2 => ?_, by rw [k2, nI_0]⟩
  · unfold fX12_toldBy
    rw [a1, bv_s, c1]
    unfold fX12_toldBy_161
    rw [k1, bv_s]
    rfl
  · by_cases z : b = 5
    · subst z; exact k3 j
    · rw [k5 b j z z2, c2 b j z, ex b j z1 z2]
theorem tld_C (H : RR hc hm) {t w : Nat} (ht : t < 6) (hw : w < 3) (hour d : Int32) : fX9_numberOf (nI t) hour d (nI w) hc = some (tlV hc t hour d w, hc) := by
  unfold fX9_numberOf fX0_numberNow tlV
  obtain ⟨e1, e2⟩ := rowMo_pl hc ht
  rw [e1, e2, e_heavyC (RR_VNc H) (RR_VYc H), bd_s, e_momC (RR_VNc H), bd_s, e_listC (RR_VNc H), bd_s]
  simp only [inb_n ht (show 6 < 2 ^ 31 by omega), inb_n hw (show 3 < 2 ^ 31 by omega), ck_t, nI_clamp (show t < 2 ^ 31 by omega), nI_clamp (show w < 2 ^ 31 by omega)]
  unfold NwC
  have : w = 0 ∨ w = 1 ∨ w = 2 := by omega
  rcases this with rfl | rfl | rfl
  · rw [nI_0, if_pos rfl, if_pos rfl, bd_s]
  · rw [if_neg (nI_ne0 (by omega) (by omega)), if_pos (by decide), bd_s, if_neg (by decide), if_pos rfl]
  · rw [if_neg (nI_ne0 (by omega) (by omega)), if_neg (by decide), bd_s, if_neg (by decide), if_neg (by decide)]
theorem op_tells (H : RR hc hm) (p1 p2 p3 p4 : Int32) : OKT (¬ ((0 ≤ p1 ∧ p1 ≤ gI hc 8 3 - 1) ∧ (0 ≤ p2 ∧ p2 ≤ 200) ∧ (0 ≤ p3 ∧ p3 ≤ 600) ∧ (0 ≤ p4 ∧ p4 ≤ 2))) (fX11_tells p1 p2 p3 p4 hc) (fX12_tells p1 p2 p3 p4 hm) hc := by
  have H2 := RR_thrown 0 H
  obtain ⟨g1, -, -, -, -, -, ⟨q, hq6, eq, -⟩, -⟩ := H2.1.2.2.2.2.2.2.1
  obtain ⟨hmL, L1, L2, L3⟩ := lostM H
  simp only [fX11_tells, fX11_tells_49, fX11_tells_50, fX12_tells, fX12_tells_59, nm_e1, f_between, f_in, f_isDepthC, f_isDepthM, bd_s, if10s, if_true, show ¬ (1 : Int32) = 0 by decide, if_false, L1, g1]
  refine ⟨fun nl => ?_, fun l => ?_⟩
  · have nl' : (0 ≤ p1 ∧ p1 ≤ gI (pI hm 0 22 0) 0 50 - 1) ∧ (0 ≤ p2 ∧ p2 ≤ 200) ∧ (0 ≤ p3 ∧ p3 ≤ 600) ∧ (0 ≤ p4 ∧ p4 ≤ 2) := Classical.not_not.mp nl
    obtain ⟨c1, c2, c3, c4⟩ := nl'
    simp only [if_pos c1, if_pos c2, if_pos c3, if_pos c4]
    rw [eq, i32_ltle (by omega)] at c1
    obtain ⟨t, ht, rfl⟩ := c1
    obtain ⟨w, hw, rfl⟩ := upto 2 (by decide +kernel) c4
    obtain ⟨h', a1, a2, a3⟩ := told_M H2 eq hq6 ht (show w < 3 by omega) p2 p3
    rw [tld_C H2 (by omega) (by omega), bd_s, a1, bd_s]
    refine ⟨_, hc, h', rfl, rfl, ?_, RR_exP a2 a3 H2⟩
    rw [a2 0 22 (by decide) (by decide), th0]
  · refine ⟨0, hmL, ?_, L2, L3⟩
    by_cases c1 : 0 ≤ p1 ∧ p1 ≤ gI (pI hm 0 22 0) 0 50 - 1
    · rw [if_pos c1]
      by_cases c2 : 0 ≤ p2 ∧ p2 ≤ 200
      · rw [if_pos c2]
        by_cases c3 : 0 ≤ p3 ∧ p3 ≤ 600
        · rw [if_pos c3]
          by_cases c4 : 0 ≤ p4 ∧ p4 ≤ 2
          · exact absurd ⟨c1, c2, c3, c4⟩ l
          · rw [if_neg c4]
        · rw [if_neg c3]
      · rw [if_neg c2]
    · rw [if_neg c1]
end TLD
