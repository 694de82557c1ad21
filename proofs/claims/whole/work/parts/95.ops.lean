section LOK
variable {hc hm : HS}
/-- whether a number would leave two tellings together -/
def tgV (hc : HS) (lf wi hour : Int32) (w o p : Nat) : Int32 := if btP lf o = 1 then (if btP lf p = 1 then (if wi < iabs (rowMo hc o w - rowMo hc p w + hour * (rowHo hc o w - rowHo hc p w)) then 0 else 1) else 0) else 0
def mxV (hc : HS) (lf wi hour : Int32) (w q : Nat) : Nat → Nat → Int32 → Int32
  | _, 0, v => v
  | o, k + 1, v => mxV hc lf wi hour w q (o + 1) k (imax v (sR (tgV hc lf wi hour w o) 0 q))
theorem tgV_r (hc : HS) (lf wi hour : Int32) (w o p : Nat) : 0 ≤ (tgV hc lf wi hour w o p).toInt ∧ (tgV hc lf wi hour w o p).toInt ≤ 1 := by
  unfold tgV
  split
  · split
    · split <;> decide
    · decide
  · decide
theorem mxV_r {hc : HS} {lf wi hour : Int32} {w q : Nat} (hq : q ≤ 6) : ∀ (k o : Nat) (v : Int32), (0 ≤ v.toInt ∧ v.toInt ≤ 6) → 0 ≤ (mxV hc lf wi hour w q o k v).toInt ∧ (mxV hc lf wi hour w q o k v).toInt ≤ 6
  | 0, _, v, h => h
  | k + 1, o, v, h => by
    have := sR_rng (f := tgV hc lf wi hour w o) (lo := 0) (hi := 1) (by omega) (by omega) (by omega) (by omega) q 0 (by omega) (fun j _ _ => tgV_r hc lf wi hour w o j)
    rw [mxV]
    exact mxV_r hq k (o + 1) _ (by rw [imax_toInt]; omega)
theorem e_mostC {q w : Nat} (hq : q ≤ 6) (hw : w < 3) (eq : gI hc 8 3 = nI q) (lf wi hour : Int32) : fX9_mostTogether lf wi hour (nI w) hc = some (mxV hc lf wi hour w q 0 q 0, hc) := by
  have inn : ∀ (K : Int32 → Int32 → Int32 → Int32 → Int32 → Int32 → HS → Option (Int32 × HS)) (o : Nat), o < q → ∀ (v5 : Int32) (k p : Nat), p + k = q → ∀ n, k < n → ∀ v7 : Int32, fX9_mostTogether_21 K n lf wi hour (nI w) v5 (nI o) v7 (nI p) hc = K lf wi hour (nI w) (imax v5 (v7 + sR (tgV hc lf wi hour w o) p k)) (nI (o + 1)) hc := by
    intro K o ho v5 k
    induction k with
    | zero =>
      intro p hp n hn v7
      obtain ⟨m, rfl⟩ := fuel1 hn
      rw [fX9_mostTogether_21, eq, if_pos (nI_le (by omega) (by omega))]
      simp only [nm_e1, nI_1, sR, Int32.add_zero]
    | succ k ih =>
      intro p hp n hn v7
      obtain ⟨m, rfl⟩ := fuel1 hn
      obtain ⟨m1, m2⟩ := rowMo_pl hc (show o < 6 by omega)
      obtain ⟨m3, m4⟩ := rowMo_pl hc (show p < 6 by omega)
      have ap : fX9_apartAt (nI o) (nI p) hour (nI w) hc = some (rowMo hc o w - rowMo hc p w + hour * (rowHo hc o w - rowHo hc p w), hc) := by
        unfold fX9_apartAt
        simp only [inb_n (show o < 6 by omega) (by omega), inb_n (show p < 6 by omega) (by omega), inb_n hw (show 3 < 2 ^ 31 by omega), ck_t, nI_clamp (show o < 2 ^ 31 by omega), nI_clamp (show p < 2 ^ 31 by omega), nI_clamp (show w < 2 ^ 31 by omega), m1, m2, m3, m4]
      rw [fX9_mostTogether_21, eq, if_neg (nI_ge (by omega) (by omega)), show (lf >>> (nI o &&& 31)) &&& 1 = btP lf o from rfl, show (lf >>> (nI p &&& 31)) &&& 1 = btP lf p from rfl]
      unfold fX9_mostTogether_54 fX9_mostTogether_55 fX9_mostTogether_90 fX9_mostTogether_91
      simp only [ap, bd_s, nm_e1, nI_1, ih (p + 1) (by omega) m (by omega), if_true, show ¬ (1 : Int32) = 0 by decide, if_false, sR]
      rw [show tgV hc lf wi hour w o p = if btP lf o = 1 then (if btP lf p = 1 then (if wi < iabs (rowMo hc o w - rowMo hc p w + hour * (rowHo hc o w - rowHo hc p w)) then 0 else 1) else 0) else 0 from rfl]
      by_cases c1 : btP lf o = 1
      · rw [if_pos c1, if_pos c1]
        by_cases c2 : btP lf p = 1
        · rw [if_pos c2, if_pos c2]
          by_cases c3 : wi < iabs (rowMo hc o w - rowMo hc p w + hour * (rowHo hc o w - rowHo hc p w))
          · rw [if_pos c3, if_pos c3, Int32.add_assoc]
          · rw [if_neg c3, if_neg c3, Int32.add_assoc]
        · rw [if_neg c2, if_neg c2, Int32.add_assoc]
      · rw [if_neg c1, if_neg c1, Int32.add_assoc]
  have out : ∀ (k o : Nat), o + k = q → ∀ n, k < n → ∀ v5 : Int32, fX9_mostTogether_6 n lf wi hour (nI w) v5 (nI o) hc = some (mxV hc lf wi hour w q o k v5, hc) := by
    intro k
    induction k with
    | zero =>
      intro o ho n hn v5
      obtain ⟨m, rfl⟩ := fuel1 hn
      rw [fX9_mostTogether_6, eq, if_pos (nI_le (by omega) (by omega))]
      rfl
    | succ k ih =>
      intro o ho n hn v5
      obtain ⟨m, rfl⟩ := fuel1 hn
      have := inn (fX9_mostTogether_6 m) o (by omega) v5 q 0 (by omega) FU (FU_gt (by omega)) 0
      rw [nI_0, Int32.zero_add] at this
      rw [fX9_mostTogether_6, eq, if_neg (nI_ge (by omega) (by omega)), this, ih (o + 1) (by omega) m (by omega)]
      rfl
  unfold fX9_mostTogether
  have := out q 0 (by omega) FU (FU_gt (by omega)) 0
  rw [nI_0] at this
  exact this
/-- the model's count, once what is told now stands -/
theorem e_mostM {h : HS} {q w : Nat} {d : Int32} (hq : q ≤ 6) (eq : gI h 0 50 = nI q) (lf wi hour : Int32) (h29 : ∀ t, t < q → gI h 29 t = tlV hc t hour d w) (K53 : Int32 → Int32 → Int32 → Int32 → Int32 → Int32 → Int32 → HS → Option (Int32 × HS)) (K63 : Int32 → Int32 → Int32 → Int32 → Int32 → Int32 → Int32 → Int32 → HS → Option (Int32 × HS)) (p2 v4 v5 v6 v7 v8 : Int32) : fX12_look_111 K53 K63 FU wi p2 lf v4 v5 v6 v7 v8 0 0 h = if v5 = -1 then K63 wi p2 lf (mxV hc lf wi hour w q 0 q 0) v7 v8 v7 (v8 + 1) h else if mxV hc lf wi hour w q 0 q 0 < v4 then K63 wi p2 lf (mxV hc lf wi hour w q 0 q 0) v7 v8 v7 (v8 + 1) h else K63 wi p2 lf v4 v5 v6 v7 (v8 + 1) h := by
  have inn : ∀ (K : Int32 → Int32 → Int32 → Int32 → Int32 → Int32 → Int32 → Int32 → Int32 → Int32 → HS → Option (Int32 × HS)) (o : Nat), o < q → ∀ (v9 : Int32) (k p : Nat), p + k = q → ∀ n, k < n → ∀ v11 : Int32, fX12_look_126 K53 K63 K n wi p2 lf v4 v5 v6 v7 v8 v9 (nI o) v11 (nI p) h = K wi p2 lf v4 v5 v6 v7 v8 (imax v9 (v11 + sR (tgV hc lf wi hour w o) p k)) (nI (o + 1)) h := by
    intro K o ho v9 k
    induction k with
    | zero =>
      intro p hp n hn v11
      obtain ⟨m, rfl⟩ := fuel1 hn
      rw [fX12_look_126, eq, if_pos (nI_le (by omega) (by omega))]
      simp only [nm_e1, nI_1, sR, Int32.add_zero]
    | succ k ih =>
      intro p hp n hn v11
      obtain ⟨m, rfl⟩ := fuel1 hn
      have ap : gI h 29 o - gI h 29 p = rowMo hc o w - rowMo hc p w + hour * (rowHo hc o w - rowHo hc p w) := by
        rw [h29 o ho, h29 p (by omega)]
        unfold tlV
        grind
      rw [fX12_look_126, eq, if_neg (nI_ge (by omega) (by omega)), e_has, bd_s, if10s, e_has, bd_s, if10s]
      unfold fX12_look_181 fX12_look_182
      simp only [inb_n (show o < 6 by omega) (by omega), inb_n (show p < 6 by omega) (by omega), ck_t, nI_clamp (show o < 2 ^ 31 by omega), nI_clamp (show p < 2 ^ 31 by omega), ap, nm_e1, nI_1, ih (p + 1) (by omega) m (by omega), sR]
      rw [show tgV hc lf wi hour w o p = if btP lf o = 1 then (if btP lf p = 1 then (if wi < iabs (rowMo hc o w - rowMo hc p w + hour * (rowHo hc o w - rowHo hc p w)) then 0 else 1) else 0) else 0 from rfl]
      by_cases c1 : btP lf o = 1
      · rw [if_pos c1, if_pos c1]
        by_cases c2 : btP lf p = 1
        · rw [if_pos c2, if_pos c2]
          by_cases c3 : wi < iabs (rowMo hc o w - rowMo hc p w + hour * (rowHo hc o w - rowHo hc p w))
          · rw [if_pos c3, if_pos c3, Int32.add_assoc]
          · rw [if_neg c3, if_neg c3, Int32.add_assoc]
        · rw [if_neg c2, if_neg c2, Int32.add_assoc]
      · rw [if_neg c1, if_neg c1, Int32.add_assoc]
  have out : ∀ (k o : Nat), o + k = q → ∀ n, k < n → ∀ v9 X : Int32, X = mxV hc lf wi hour w q o k v9 → fX12_look_111 K53 K63 n wi p2 lf v4 v5 v6 v7 v8 v9 (nI o) h = if v5 = -1 then K63 wi p2 lf X v7 v8 v7 (v8 + 1) h else if X < v4 then K63 wi p2 lf X v7 v8 v7 (v8 + 1) h else K63 wi p2 lf v4 v5 v6 v7 (v8 + 1) h := by
    intro k
    induction k with
    | zero =>
      intro o ho n hn v9 X hX
      obtain ⟨m, rfl⟩ := fuel1 hn
      rw [mxV] at hX
      subst hX
      rw [fX12_look_111, eq, if_pos (nI_le (by omega) (by omega))]
      unfold fX12_look_222
      simp only [nm_e1]
    | succ k ih =>
      intro o ho n hn v9 X hX
      obtain ⟨m, rfl⟩ := fuel1 hn
      have := inn (fX12_look_111 K53 K63 m) o (by omega) v9 q 0 (by omega) FU (FU_gt (by omega)) 0
      rw [nI_0, Int32.zero_add] at this
      rw [fX12_look_111, eq, if_neg (nI_ge (by omega) (by omega)), this]
      exact ih (o + 1) (by omega) m (by omega) _ X hX
  have := out q 0 (by omega) FU (FU_gt (by omega)) 0 _ rfl
  rw [nI_0] at this
  exact this
theorem l_look72 {q w : Nat} (hq : q ≤ 6) (hw : w < 3) (hour d : Int32) (K53 : Int32 → Int32 → Int32 → Int32 → Int32 → Int32 → Int32 → HS → Option (Int32 × HS)) (K63 : Int32 → Int32 → Int32 → Int32 → Int32 → Int32 → Int32 → Int32 → HS → Option (Int32 × HS)) (wi lf v4 v5 v6 : Int32) : ∀ (k t : Nat) (h : HS), t + k = q → RR hc h → gI h 0 50 = nI q → (∀ j, j < t → gI h 29 j = tlV hc j hour d w) → ∀ n, k < n → ∃ h', fX12_look_72 K53 K63 n wi d lf v4 v5 v6 hour (nI w) (nI t) h = fX12_look_111 K53 K63 FU wi d lf v4 v5 v6 hour (nI w) 0 0 h' ∧ exL h h' ∧ gI h' 0 24 = 0 ∧ (∀ j, j < q → gI h' 29 j = tlV hc j hour d w) := by
  intro k
  induction k with
  | zero =>
    intro t h ht H eq hd n hn
    obtain ⟨m, rfl⟩ := fuel1 hn
    refine ⟨h, ?_, fun _ _ _ _ _ _ => rfl, H.2.2, fun j hj => hd j (by omega)⟩
    rw [fX12_look_72, eq, if_pos (nI_le (by omega) (by omega))]
  | succ k ih =>
    intro t h ht H eq hd n hn
    obtain ⟨m, rfl⟩ := fuel1 hn
    obtain ⟨h1, a1, a2, a3⟩ := told_M H eq hq (show t < q by omega) hw hour d
    have ex : exL h (pI h1 29 t (tlV hc t hour d w)) := fun b j z1 _ z3 z4 => by rw [gI_pI, if_neg (fun y => z3 y.1)]; exact a2 b j z1 z4
    have H1 : RR hc (pI h1 29 t (tlV hc t hour d w)) := RR_exL ex (by rw [gI_pI, if_neg (by omega)]; exact a3) H
    obtain ⟨h', b1, b2, b3, b4⟩ := ih (t + 1) _ (by omega) H1 (by rw [gI_pI, if_neg (by omega), a2 0 50 (by decide) (by decide)]; exact eq) (fun j hj => by
      rw [gI_pI]
      by_cases z : j = t
      · rw [if_pos ⟨rfl, z⟩, z]
      · rw [if_neg (fun y => z y.2), a2 29 j (by decide) (by omega)]
        exact hd j (by omega)) m (by omega)
    refine ⟨h', ?_, exL_t ex b2, b3, b4⟩
    rw [fX12_look_72, eq, if_neg (nI_ge (by omega) (by omega)), a1, bd_s, inb_n (show t < 6 by omega) (by omega), ck_t, nI_clamp (by omega), nm_e1, nm_e1, nI_1]
    exact b1
/-- hours and whats, one behind the other -/
theorem op_look (H : RR hc hm) (p1 p2 : Int32) : OK2 (fX11_look p1 p2 hc) (fX12_look p1 p2 hm) := by
  have H2 := RR_thrown 0 H
  simp only [fX11_look, fX12_look, nm_e1, f_between, f_in, f_isDepthC, f_isDepthM, bd_s, if10s]
  refine OK2_if (fun c1 => OK2_if (fun c2 => ?_) (fun _ => OK2_c H2)) (fun _ => OK2_c H2)
  generalize pI hm 0 22 0 = h0 at *
  obtain ⟨q, G, hq, hG, eq, eqc, eG, eGc, hw, -⟩ := RR_tg H2
  have hw' : ∀ g, g < G → ∃ w, w < 3 ∧ gI hc 61 g = nI w := fun g hg => by obtain ⟨w, y1, y2, -⟩ := hw g hg; exact ⟨w, y1, y2⟩
  obtain ⟨h1, a1, a2, a3, a4⟩ := e_letM H2 hq hG eq eG hw' p1
  have H1 := RR_exL a2 a3 H2
  rw [a1, bd_s, e_fitC H2 hq hG eqc eGc hw', bd_s]
  generalize bitsV hc p1 G 0 q 0 = lf
  have bcx : ∀ (h : HS), ∃ bc, ∀ h : HS, fJ6_bitCount_0f7a4 lf h = some (bc, h) := fun h => ⟨_, fun h => rfl⟩
  obtain ⟨bc, hbc⟩ := bcx hc
  rw [hbc, hbc, bd_s, bd_s]
  refine OK2_if (fun c3 => ?_) (fun _ => OK2_c H1)
  have k24 : (24 : Int32) = nI 24 := by decide
  have inner : ∀ (hour : Nat), hour ≤ 24 → ∀ (KC : Int32 → Int32 → Int32 → Int32 → Int32 → Int32 → HS → Option (Int32 × HS)) (KM : Int32 → Int32 → Int32 → Int32 → Int32 → Int32 → Int32 → HS → Option (Int32 × HS)) (k w : Nat) (h : HS) (u4 u5 u6 v4 v5 v6 : Int32), w + k = 3 → RR hc h → gI h 0 50 = nI q → ((v5 = -1 ∧ u4 = 7) ∨ (¬ v5 = -1 ∧ u4 = v4 ∧ u5 = v5 ∧ u6 = v6)) → (k = 3 ∨ ¬ v5 = -1) → ∀ n m, k < n → k < m → ∃ h' w4 w5 w6, fX11_look_62 KC n p1 lf u4 u5 u6 (nI hour) (nI w) hc = KC p1 lf w4 w5 w6 (nI (hour + 1)) hc ∧ fX12_look_63 KM m p1 p2 lf v4 v5 v6 (nI hour) (nI w) h = KM p1 p2 lf w4 w5 w6 (nI (hour + 1)) h' ∧ ¬ w5 = -1 ∧ RR hc h' ∧ gI h' 0 50 = nI q := by
    intro hour hh KC KM k
    induction k with
    | zero =>
      intro w h u4 u5 u6 v4 v5 v6 hk Hx ex rel first n m hn hm1
      obtain ⟨n', rfl⟩ := fuel1 hn
      obtain ⟨m', rfl⟩ := fuel1 hm1
      have e3 : w = 3 := by omega
      subst e3
      rcases rel with ⟨y1, -⟩ | ⟨y1, rfl, rfl, rfl⟩
      · exact absurd y1 (first.resolve_left (by omega))
      · refine ⟨h, u4, u5, u6, ?_, ?_, y1, Hx, ex⟩
        · rw [fX11_look_62, if_pos (by decide), nm_e1, nI_1]
        · rw [fX12_look_63, if_pos (by decide), nm_e1, nI_1]
    | succ k ih =>
      intro w h u4 u5 u6 v4 v5 v6 hk Hx ex rel first n m hn hm1
      obtain ⟨n', rfl⟩ := fuel1 hn
      obtain ⟨m', rfl⟩ := fuel1 hm1
      have w3 : w < 3 := by omega
      obtain ⟨h', b1, b2, b3, b4⟩ := l_look72 (hc := hc) hq w3 (nI hour) p2 KM (fX12_look_63 KM m') p1 lf v4 v5 v6 q 0 h (by omega) Hx ex (fun j hj => by omega) FU (FU_gt (by omega))
      rw [nI_0] at b1
      have Hx' := RR_exL b2 b3 Hx
      have ex' : gI h' 0 50 = nI q := by rw [b2 0 50 (by decide) (by decide) (by decide) (by decide)]; exact ex
      have mr := mxV_r (hc := hc) (lf := lf) (wi := p1) (hour := nI hour) (w := w) hq q 0 0 (by rw [i32_z]; omega)
      have nh : ¬ nI hour = (-1 : Int32) := fun z => m1_ne (by omega) z.symm
      have nw3 : ¬ (3 : Int32) ≤ nI w := by rw [show (3 : Int32) = nI 3 by decide]; exact nI_ge (by omega) (by omega)
      rw [fX11_look_62, if_neg (by rw [show (2 : Int32) = nI 2 by decide]; exact nI_nlt (by omega) (by omega)), e_mostC hq w3 eqc, bd_s, fX12_look_63, if_neg nw3, b1, e_mostM (hc := hc) (w := w) (d := p2) hq ex' lf p1 (nI hour) b4]
      simp only [nm_e1, nI_1]
      generalize mxV hc lf p1 (nI hour) w q 0 q 0 = X at mr
      rcases rel with ⟨y1, y2⟩ | ⟨y1, rfl, rfl, rfl⟩
      · have c7 : ¬ u4 ≤ X := fun z => by have := i32_le.mp z; rw [y2, show (7 : Int32).toInt = 7 by decide +kernel] at this; omega
        rw [if_pos y1, if_neg c7]
        exact ih (w + 1) h' X (nI hour) (nI w) X (nI hour) (nI w) (by omega) Hx' ex' (Or.inr ⟨nh, rfl, rfl, rfl⟩) (Or.inr nh) n' m' (by omega) (by omega)
      · rw [if_neg y1]
        by_cases c : u4 ≤ X
        · rw [if_pos c, if_neg (Int32.not_lt.mpr c)]
          exact ih (w + 1) h' u4 u5 u6 u4 u5 u6 (by omega) Hx' ex' (Or.inr ⟨y1, rfl, rfl, rfl⟩) (Or.inr y1) n' m' (by omega) (by omega)
        · rw [if_neg c, if_pos (Int32.not_le.mp c)]
          exact ih (w + 1) h' X (nI hour) (nI w) X (nI hour) (nI w) (by omega) Hx' ex' (Or.inr ⟨nh, rfl, rfl, rfl⟩) (Or.inr nh) n' m' (by omega) (by omega)
  have outer : ∀ (k hour : Nat) (h : HS) (u4 u5 u6 v4 v5 v6 : Int32), hour + k = 25 → RR hc h → gI h 0 50 = nI q → ((v5 = -1 ∧ u4 = 7) ∨ (¬ v5 = -1 ∧ u4 = v4 ∧ u5 = v5 ∧ u6 = v6)) → (k = 25 ∨ ¬ v5 = -1) → ∀ n m, k < n → k < m → OK2 (fX11_look_52 n p1 lf u4 u5 u6 (nI hour) hc) (fX12_look_53 m p1 p2 lf v4 v5 v6 (nI hour) h) := by
    intro k
    induction k with
    | zero =>
      intro hour h u4 u5 u6 v4 v5 v6 hk Hx ex rel first n m hn hm1
      obtain ⟨n', rfl⟩ := fuel1 hn
      obtain ⟨m', rfl⟩ := fuel1 hm1
      rcases rel with ⟨y1, -⟩ | ⟨y1, rfl, rfl, rfl⟩
      · exact absurd y1 (first.resolve_left (by omega))
      · obtain ⟨hc1, hc2, hc3, hm2, hm3, t1, t2, t3, t4, t5, t6, -⟩ := tell2 Hx u5 u6
        rw [fX11_look_52, fX12_look_53, k24, if_pos (nI_lt (by omega) (by omega)), if_pos (nI_lt (by omega) (by omega)), t1, bv_s, t2, bv_s, t3, bv_s, nm_e1, t4, bv_s, t5, bv_s]
        exact OK2_c t6
    | succ k ih =>
      intro hour h u4 u5 u6 v4 v5 v6 hk Hx ex rel first n m hn hm1
      obtain ⟨n', rfl⟩ := fuel1 hn
      obtain ⟨m', rfl⟩ := fuel1 hm1
      obtain ⟨h', w4, w5, w6, b1, b2, b3, b4, b5⟩ := inner hour (by omega) (fX11_look_52 n') (fX12_look_53 m') 3 0 h u4 u5 u6 v4 v5 v6 (by omega) Hx ex rel (Or.inl rfl) FU FU (FU_gt (by omega)) (FU_gt (by omega))
      rw [nI_0] at b1 b2
      rw [fX11_look_52, fX12_look_53, k24, if_neg (nI_nlt (by omega) (by omega)), if_neg (nI_nlt (by omega) (by omega)), b1, b2]
      exact ih (hour + 1) h' w4 w5 w6 w4 w5 w6 (by omega) b4 b5 (Or.inr ⟨b3, rfl, rfl, rfl⟩) (Or.inr b3) n' m' (by omega) (by omega)
  have k0 := outer 25 0 h1 7 0 0 0 (-1) 0 (by omega) H1 (by rw [a2 0 50 (by decide) (by decide) (by decide) (by decide)]; exact eq) (Or.inl ⟨rfl, rfl⟩) (Or.inl rfl) FU FU (FU_gt (by omega)) (FU_gt (by omega))
  rw [nI_0] at k0
  exact k0
end LOK
