/-! ranges, rows, and more operations -/
theorem fb_addI9 {x y : Int32} (h1 : -2147483648 ≤ x.toInt + y.toInt) (h2 : x.toInt + y.toInt < 2147483648) : (x + y).toInt = x.toInt + y.toInt := by
  rw [Int32.toInt_add]
  exact fb_bmod9 h1 h2
theorem fb_mulI9 {x y : Int32} (h1 : -2147483648 ≤ x.toInt * y.toInt) (h2 : x.toInt * y.toInt < 2147483648) : (x * y).toInt = x.toInt * y.toInt := by
  rw [Int32.toInt_mul]
  exact fb_bmod9 h1 h2
theorem fb_divI9 {x y : Int32} (h1 : -2147483648 < x.toInt) : (x / y).toInt = x.toInt.tdiv y.toInt := by
  rw [Int32.toInt_div]
  have h2 := Int32.toInt_lt x
  have h3 : -2147483648 ≤ x.toInt.tdiv y.toInt ∧ x.toInt.tdiv y.toInt < 2147483648 := by
    have a := Int.natAbs_tdiv_le_natAbs x.toInt y.toInt
    have b : x.toInt < 2147483648 := by simpa using h2
    omega
  exact fb_bmod9 h3.1 h3.2
theorem fb_rng9 (x : Int32) : -2147483648 ≤ x.toInt ∧ x.toInt < 2147483648 := by
  have h1 := Int32.le_toInt x
  have h2 := Int32.toInt_lt x
  simp at h1 h2
  exact ⟨h1, h2⟩
theorem i32_eqI {x : Int32} {a : Nat} (h : x.toInt = a) : x = nI a := by
  apply Int32.toInt_inj.mp
  have := fb_rng9 x
  rw [nI_toInt (by omega)]
  exact h
theorem i32_le {x y : Int32} : x ≤ y ↔ x.toInt ≤ y.toInt := Int32.le_iff_toInt_le
theorem i32_lt {x y : Int32} : x < y ↔ x.toInt < y.toInt := Int32.lt_iff_toInt_lt
theorem i32_z : (0 : Int32).toInt = 0 := rfl
theorem sR_rng {f : Nat → Int32} {lo hi : Int} (hl : -100000000 ≤ lo) (hl0 : lo ≤ 0) (hh : hi ≤ 100000000) (hh0 : 0 ≤ hi) : ∀ (k i : Nat), k ≤ 15 → (∀ j, i ≤ j → j < i + k → lo ≤ (f j).toInt ∧ (f j).toInt ≤ hi) → (k : Int) * lo ≤ (sR f i k).toInt ∧ (sR f i k).toInt ≤ (k : Int) * hi
  | 0, i, _, _ => by simp [sR]
  | k + 1, i, hk, H => by
    obtain ⟨a1, a2⟩ := H i (Nat.le_refl i) (by omega)
    obtain ⟨b1, b2⟩ := sR_rng hl hl0 hh hh0 k (i + 1) (by omega) (fun j h1 h2 => H j (by omega) (by omega))
    have hk' : (k : Int) ≤ 14 := by omega
    have c1 : 14 * lo ≤ (k : Int) * lo := Int.mul_le_mul_of_nonpos_right hk' hl0
    have c2 : (k : Int) * hi ≤ 14 * hi := Int.mul_le_mul_of_nonneg_right hk' hh0
    have e : (f i + sR f (i + 1) k).toInt = (f i).toInt + (sR f (i + 1) k).toInt := fb_addI9 (by omega) (by omega)
    show ((k + 1 : Nat) : Int) * lo ≤ (f i + sR f (i + 1) k).toInt ∧ (f i + sR f (i + 1) k).toInt ≤ ((k + 1 : Nat) : Int) * hi
    rw [e, Int.natCast_add, Int.add_mul, Int.add_mul]
    simp only [Int.natCast_one, Int.one_mul]
    omega
/-- loads and base as they may be: what follows of the weight and the moments -/
theorem W_rng {h : HS} (I : IL h) (J : IB h) : 0 ≤ (Wm h).toInt ∧ (Wm h).toInt ≤ 114984 := by
  obtain ⟨n15, -⟩ := VN_n I.1
  have r := sR_rng (f := gI h 5) (lo := 0) (hi := 999) (by omega) (by omega) (by omega) (by omega) (nLd h) 0 n15 (fun j _ h2 => by
    obtain ⟨-, -, -, a, b, c⟩ := I.2 j (by omega)
    omega)
  have hn : (nLd h : Int) ≤ 15 := by omega
  have := J.1
  unfold Wm wV
  rw [fb_addI9 (by omega) (by omega)]
  omega
theorem mul_rng {x y : Int32} {a b : Int} (ha : 0 ≤ a) (hx : -a ≤ x.toInt ∧ x.toInt ≤ a) (hy : 0 ≤ y.toInt ∧ y.toInt ≤ b) (hab : a * b < 2147483648) : (x * y).toInt = x.toInt * y.toInt ∧ -(a * b) ≤ (x * y).toInt ∧ (x * y).toInt ≤ a * b := by
  have h1 : x.toInt * y.toInt ≤ a * b := by
    have := Int.mul_le_mul_of_nonneg_right hx.2 hy.1
    have := Int.mul_le_mul_of_nonneg_left hy.2 ha
    omega
  have h2 : -(a * b) ≤ x.toInt * y.toInt := by
    have h3 := Int.mul_le_mul_of_nonneg_right hx.1 hy.1
    have h4 := Int.mul_le_mul_of_nonneg_left hy.2 ha
    have h5 : -a * y.toInt = -(a * y.toInt) := Int.neg_mul a y.toInt
    omega
  rw [fb_mulI9 (by omega) (by omega)]
  exact ⟨rfl, h2, h1⟩
theorem M_rng {h : HS} (I : IL h) (J : IB h) : -2483514 ≤ (Mm h).toInt ∧ (Mm h).toInt ≤ 2483514 := by
  obtain ⟨n15, -⟩ := VN_n I.1
  have r := sR_rng (f := fun i => gI h 2 i * gI h 5 i) (lo := -98901) (hi := 98901) (by omega) (by omega) (by omega) (by omega) (nLd h) 0 n15 (fun j _ h2 => by
    obtain ⟨-, x, -, a, b, c⟩ := I.2 j (by omega)
    have := mul_rng (x := gI h 2 j) (y := gI h 5 j) (a := 99) (b := 999) (by omega) (by omega) ⟨a, by omega⟩ (by omega)
    omega)
  have hn : (nLd h : Int) ≤ 15 := by omega
  have := J.2.1
  unfold Mm mV
  rw [fb_addI9 (by omega) (by omega)]
  omega
theorem T_rng {h : HS} (I : IL h) (J : IB h) : -234864 ≤ (Tm h).toInt ∧ (Tm h).toInt ≤ 234864 := by
  obtain ⟨n15, -⟩ := VN_n I.1
  have r := sR_rng (f := fun i => gI h 3 i * gI h 5 i) (lo := -8991) (hi := 8991) (by omega) (by omega) (by omega) (by omega) (nLd h) 0 n15 (fun j _ h2 => by
    obtain ⟨-, -, x, a, b, c⟩ := I.2 j (by omega)
    have := mul_rng (x := gI h 3 j) (y := gI h 5 j) (a := 9) (b := 999) (by omega) (by omega) ⟨a, by omega⟩ (by omega)
    omega)
  have hn : (nLd h : Int) ≤ 15 := by omega
  have := J.2.2.1
  unfold Tm mV
  rw [fb_addI9 (by omega) (by omega)]
  omega
theorem dR_rng {ld dd : Nat → Int32} {d : Int32} : ∀ (k i : Nat) (v : Int32), (900 ≤ v.toInt ∧ v.toInt ≤ 1100) → (∀ j, i ≤ j → j < i + k → 900 ≤ (dd j).toInt ∧ (dd j).toInt ≤ 1100) → 900 ≤ (dR ld dd d i k v).toInt ∧ (dR ld dd d i k v).toInt ≤ 1100
  | 0, _, v, hv, _ => hv
  | k + 1, i, v, hv, H => by
    rw [dR]
    refine dR_rng k (i + 1) _ ?_ (fun j h1 h2 => H j (by omega) (by omega))
    by_cases c : d < ld i
    · rw [if_pos c]; exact hv
    · rw [if_neg c]; exact H i (Nat.le_refl i) (by omega)
theorem D_rng {h : HS} (J : IB h) (d : Int32) : 900 ≤ (Dm h d).toInt ∧ (Dm h d).toInt ≤ 1100 := by
  obtain ⟨-, -, -, -, -, -, H, -⟩ := J
  unfold Dm dV
  exact dR_rng (nLy h) 0 1000 (by decide +kernel) (fun j _ h2 => (H j (by omega)).2)
theorem L_rng {h : HS} (J : IB h) (d : Int32) (hd : 0 ≤ d ∧ d ≤ 600) : -6535 ≤ (Lm h d).toInt ∧ (Lm h d).toInt ≤ 109998 := by
  have hdd := D_rng J d
  obtain ⟨-, -, -, v, q, -⟩ := J
  have r := rngI 0 600 hd
  have e1 := mul_rng (x := gI h 0 10) (y := d) (a := 99) (b := 600) (by omega) (by omega) r (by omega)
  have p1 : 0 ≤ (gI h 0 10 * d).toInt := by rw [e1.1]; exact Int.mul_nonneg q.1 r.1
  have t10 : (10 : Int32).toInt = 10 := by decide +kernel
  have e2 : (gI h 0 10 * d / 10).toInt = (gI h 0 10 * d).toInt.tdiv 10 := by rw [fb_divI9 (by omega), t10]
  have e3 : 0 ≤ (gI h 0 10 * d / 10).toInt ∧ (gI h 0 10 * d / 10).toInt ≤ 5940 := by
    rw [e2, Int.tdiv_eq_ediv_of_nonneg p1]
    omega
  have e4 : (gI h 0 9 - gI h 0 10 * d / 10).toInt = (gI h 0 9).toInt - (gI h 0 10 * d / 10).toInt := fb_subI9 (by omega) (by omega)
  have e5 : -5939 ≤ (gI h 0 9 - gI h 0 10 * d / 10).toInt ∧ (gI h 0 9 - gI h 0 10 * d / 10).toInt ≤ 99999 := by omega
  show -6535 ≤ ((gI h 0 9 - gI h 0 10 * d / 10) * Dm h d / 1000).toInt ∧ ((gI h 0 9 - gI h 0 10 * d / 10) * Dm h d / 1000).toInt ≤ 109998
  generalize gI h 0 9 - gI h 0 10 * d / 10 = V at e5 ⊢
  generalize Dm h d = Dd at hdd ⊢
  have m1 : V.toInt * Dd.toInt ≤ 99999 * 1100 := by
    have a := Int.mul_le_mul_of_nonneg_right e5.2 (show 0 ≤ Dd.toInt by omega)
    omega
  have m2 : -(5939 * 1100) ≤ V.toInt * Dd.toInt := by
    have a := Int.mul_le_mul_of_nonneg_right e5.1 (show 0 ≤ Dd.toInt by omega)
    omega
  have e6 : (V * Dd).toInt = V.toInt * Dd.toInt := fb_mulI9 (by omega) (by omega)
  have t1000 : (1000 : Int32).toInt = 1000 := by decide +kernel
  rw [fb_divI9 (by omega), t1000, e6]
  generalize V.toInt * Dd.toInt = z at m1 m2
  rcases Int.le_total 0 z with hz | hz
  · rw [Int.tdiv_eq_ediv_of_nonneg hz]
    omega
  · have : z.tdiv 1000 = -((-z).tdiv 1000) := by rw [Int.neg_tdiv, Int.neg_neg]
    rw [this, Int.tdiv_eq_ediv_of_nonneg (by omega)]
    omega
theorem H_rng {h : HS} (I : IL h) (J : IB h) (d : Int32) (hd : 0 ≤ d ∧ d ≤ 600) : (Hm h d).toInt = (Wm h).toInt - (Lm h d).toInt ∧ -109998 ≤ (Hm h d).toInt ∧ (Hm h d).toInt ≤ 121519 := by
  have a := W_rng I J
  have b := L_rng J d hd
  have e : (Hm h d).toInt = (Wm h).toInt - (Lm h d).toInt := fb_subI9 (by omega) (by omega)
  omega
section OPS
variable {hc hm : HS}
/-- rows -/
theorem row0 (H : RR hc hm) : fX6_empty hc = some (pI hc 4 1 0) ∧ RR (pI hc 4 1 0) (pI hm 0 21 0) ∧ gI (pI hm 0 21 0) 0 21 = nI 0 := by
  refine ⟨rfl, RR_upW (cg_pI rfl cg_rf) (cg_pI rfl cg_rf) ?_ H, by rw [gI_pI, if_pos ⟨rfl, rfl⟩, nI_0]⟩
  refine ⟨by simp [gI_pI], 0, by omega, by rw [gI_pI, if_pos ⟨rfl, rfl⟩, nI_0], fun k hk => by omega⟩
theorem row1 (H : RR hc hm) {t : Nat} (et : gI hm 0 21 = nI t) (ht : t < 20) (v : Int32) : fX6_add v hc = some (pI (pI hc 35 t v) 4 1 (nI (t + 1))) ∧ fX12_tell v hm = some (pI (pI hm 10 t v) 0 21 (nI (t + 1))) ∧ RR (pI (pI hc 35 t v) 4 1 (nI (t + 1))) (pI (pI hm 10 t v) 0 21 (nI (t + 1))) ∧ gI (pI (pI hm 10 t v) 0 21 (nI (t + 1))) 0 21 = nI (t + 1) := by
  obtain ⟨w1, t', w2, w3, w4⟩ := H.1.2.2.2.1
  have e : t' = t := (nI_eq (by omega) (by omega)).mp (w3.symm.trans et)
  subst e
  have ec : gI hc 4 1 = nI t' := w1.trans et
  refine ⟨?_, ?_, RR_upW (cg_pI rfl (cg_pI rfl cg_rf)) (cg_pI rfl (cg_pI rfl cg_rf)) ?_ H, by rw [gI_pI, if_pos ⟨rfl, rfl⟩]⟩
  · unfold fX6_add
    have c : ¬ (20 : Int32) ≤ gI hc 4 1 := by
      rw [ec]
      have : (20 : Int32) = nI 20 := by decide +kernel
      rw [this]
      exact nI_ge ht (by omega)
    rw [if_neg c]
    simp only [ec, inb_n ht (by omega), ck_t, nm_e1, nI_clamp (show t' < 2 ^ 31 by omega)]
    rw [show gI (pI hc 35 t' v) 4 1 = gI hc 4 1 by rw [gI_pI, if_neg (by omega)], ec, nI_1]
  · unfold fX12_tell
    simp only [et, inb_n (show t' < 24 by omega) (by omega), ck_t, nm_e1, nI_clamp (show t' < 2 ^ 31 by omega)]
    rw [show gI (pI hm 10 t' v) 0 21 = gI hm 0 21 by rw [gI_pI, if_neg (by omega)], et, nI_1]
  · refine ⟨by simp [gI_pI], t' + 1, by omega, by rw [gI_pI, if_pos ⟨rfl, rfl⟩], fun k hk => ?_⟩
    simp only [gI_pI]
    by_cases c : k = t'
    · subst c
      simp
    · simp [c]
      exact w4 k (by omega)
/-- what a call that may be lost owes -/
def OKT (lost : Prop) (oc om : Option (Int32 × HS)) (hc : HS) : Prop := (¬ lost → ∃ r hc' hm', oc = some (r, hc') ∧ om = some (r, hm') ∧ gI hm' 0 22 = 0 ∧ RR hc' hm') ∧ (lost → ∃ r hm', om = some (r, hm') ∧ gI hm' 0 22 = 1 ∧ RR hc hm')
theorem lostM (H : RR hc hm) : ∃ hm', fX12_lost (pI hm 0 22 0) = some (0, hm') ∧ gI hm' 0 22 = 1 ∧ RR hc hm' := ⟨pI (pI hm 0 22 0) 0 22 1, rfl, by rw [gI_pI, if_pos ⟨rfl, rfl⟩], RR_thrown 1 (RR_thrown 0 H)⟩
theorem th0 : gI (pI hm 0 22 0) 0 22 = 0 := by rw [gI_pI, if_pos ⟨rfl, rfl⟩]
theorem op_heavy (H : RR hc hm) (p : Int32) : OKT (¬ (0 ≤ p ∧ p ≤ 600)) (fX11_heavy p hc) (fX12_heavy p hm) hc := by
  have H2 := RR_thrown 0 H
  simp only [fX11_heavy, fX12_heavy, f_isDepthC, f_isDepthM, bd_s, nm_e1, if10s]
  refine ⟨fun c => ?_, fun c => ?_⟩
  · have c := Decidable.not_not.mp c
    rw [if_pos c, if_pos c, e_heavyC (RR_VNc H2) (RR_VYc H2), e_heavyM (RR_VN H2) (RR_VY H2), bd_s, bd_s, RR_Hc H2]
    exact ⟨_, _, _, rfl, rfl, th0, H2⟩
  · rw [if_neg c]
    obtain ⟨hm', e1, e2, e3⟩ := lostM H
    rw [e1, bd_s]
    exact ⟨_, _, rfl, e2, e3⟩
theorem op_moment (H : RR hc hm) (p : Int32) : OKT (¬ (0 ≤ p ∧ p ≤ 1)) (fX11_moment p hc) (fX12_moment p hm) hc := by
  have H2 := RR_thrown 0 H
  simp only [fX11_moment, fX12_moment, f_between, f_in, bd_s, nm_e1, if10s]
  refine ⟨fun c => ?_, fun c => ?_⟩
  · have c := Decidable.not_not.mp c
    rw [if_pos c, if_pos c]
    by_cases c2 : p = 0
    · subst c2
      rw [if_pos rfl, e_momC (RR_VNc H2), e_momM0 (RR_VN H2), bd_s, bd_s, RR_Mc H2]
      exact ⟨_, _, _, rfl, rfl, th0, H2⟩
    · rw [if_neg c2, e_listC (RR_VNc H2), e_momM1 (RR_VN H2) c2, bd_s, bd_s, RR_Tc H2]
      exact ⟨_, _, _, rfl, rfl, th0, H2⟩
  · rw [if_neg c]
    obtain ⟨hm', e1, e2, e3⟩ := lostM H
    rw [e1, bd_s]
    exact ⟨_, _, rfl, e2, e3⟩
theorem op_balanced (H : RR hc hm) (p : Int32) : OK2 (fX11_balanced p hc) (fX12_balanced p hm) := by
  have H2 := RR_thrown 0 H
  simp only [fX11_balanced, fX12_balanced, f_isDepthC, f_isDepthM, bd_s, nm_e1, if10s]
  refine OK2_if (fun c => ?_) (fun _ => OK2_c H2)
  rw [e_balC (RR_VNc H2) (RR_VYc H2) p (by unfold Bc; infer_instance), e_balM (RR_VN H2) (RR_VY H2) p (by unfold Bm; infer_instance), bd_s, bd_s]
  have dB : Decidable (Bm (pI hm 0 22 0) p) := by unfold Bm; infer_instance
  by_cases c2 : Bm (pI hm 0 22 0) p
  · rw [if_pos c2, if_pos ((RR_Bc H2 p).mpr c2)]
    simp only [show ¬ (1 : Int32) = 0 by decide, if_false]
    exact OK2_c H2
  · rw [if_neg c2, if_neg (fun q => c2 ((RR_Bc H2 p).mp q))]
    simp only [if_true]
    exact OK2_c H2
end OPS
