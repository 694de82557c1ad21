section TRI
variable {hc hm : HS}
theorem bE {e st : Int32} (H : RR hc hm) (he : endP hm e) (hb : bdS hc 13) : ∃ h', fX5_boundByEnd e st hc = some h' ∧ onlyS hc h' 13 ∧ bdS h' 13 ∧ ∀ k, inS h' 13 k ↔ inS hc 13 k ∧ ∀ i, i < nLd hm → e = nI i → 0 ≤ (gI hm 5 i).toInt + st.toInt * k ∧ (gI hm 5 i).toInt + st.toInt * k ≤ (gI hm 4 i).toInt := by
  have h15 := RR_15 H
  unfold fX5_boundByEnd
  rw [f_thereC (by omega) (RR_eC H), bd_s, if10s]
  rcases he with rfl | ⟨i, hi, rfl, -⟩
  · rw [if_neg (fun z => by obtain ⟨i, hi, e⟩ := z; exact m1_ne (by omega) e)]
    exact ⟨hc, rfl, onlyS_r, hb, fun k => ⟨fun z => ⟨z, fun i hi e => absurd e (m1_ne (by omega))⟩, fun z => z.1⟩⟩
  · rw [if_pos ⟨i, hi, rfl⟩]
    simp only [inb_n (show i < 15 by omega) (by omega), ck_t, nI_clamp (show i < 2 ^ 31 by omega)]
    obtain ⟨h', n1, n2, n3, n4⟩ := e_narrow (h := hc) (a := 13) (s := (gI hc 30 i).toInt64) (st := st.toInt64) (l := 0) (m := (gI hc 29 i).toInt64) (i64_small _).1 (i64_small _).1 (by unfold sm50; rw [z64]; omega) (i64_small _).1 hb
    refine ⟨h', by rw [n1, bv_s], n2, n3, fun k => ?_⟩
    rw [n4 k, (i64_small _).2, (i64_small _).2, (i64_small _).2, z64, H.1.1.2.2.2.2.2 i, H.1.1.2.2.2.2.1 i]
    constructor
    · rintro ⟨z1, z2, z3⟩
      refine ⟨z1, fun j hj e => ?_⟩
      have := (nI_eq (by omega) (by omega)).mp e
      subst this
      exact ⟨z2, z3⟩
    · rintro ⟨z1, z2⟩
      exact ⟨z1, z2 i hi rfl⟩
theorem bSl {now st sl : Int32} {w : Nat} (H : RR hc hm) (hw : w < 3) (esl : gI hm 8 w = sl) (rs : 0 ≤ sl.toInt ∧ sl.toInt ≤ 9999) (hb : bdS hc 13) : ∃ h', fX5_boundBySlack now st (nI w) hc = some h' ∧ onlyS hc h' 13 ∧ bdS h' 13 ∧ ∀ k, inS h' 13 k ↔ inS hc 13 k ∧ -sl.toInt ≤ now.toInt + st.toInt * k ∧ now.toInt + st.toInt * k ≤ sl.toInt := by
  unfold fX5_boundBySlack
  simp only [inb_n hw (by omega), ck_t, nI_clamp (show w < 2 ^ 31 by omega)]
  have e17 : gI hc 17 w = sl := (RR_sl H w).trans esl
  have ng : (-sl).toInt = -sl.toInt := Jvm.Kit.i32_neg (by omega)
  obtain ⟨h', n1, n2, n3, n4⟩ := e_narrow (h := hc) (a := 13) (s := now.toInt64) (st := st.toInt64) (l := (-sl).toInt64) (m := sl.toInt64) (i64_small _).1 (i64_small _).1 (i64_small _).1 (i64_small _).1 hb
  refine ⟨h', by rw [e17, n1, bv_s], n2, n3, fun k => ?_⟩
  rw [n4 k, (i64_small _).2, (i64_small _).2, (i64_small _).2, (i64_small _).2, ng]
/-- the runs of a pump that can be and balance -/
def VVi (hm : HS) (q : Nat) (d : Int32) (k : Int) : Prop := (-99 ≤ k ∧ k ≤ 99) ∧ (∀ i, i < nLd hm → gI hm 17 q = nI i → 0 ≤ (gI hm 5 i).toInt + (-(gI hm 19 q).toInt) * k ∧ (gI hm 5 i).toInt + (-(gI hm 19 q).toInt) * k ≤ (gI hm 4 i).toInt) ∧ (∀ i, i < nLd hm → gI hm 18 q = nI i → 0 ≤ (gI hm 5 i).toInt + (gI hm 19 q).toInt * k ∧ (gI hm 5 i).toInt + (gI hm 19 q).toInt * k ≤ (gI hm 4 i).toInt) ∧ (-(gI hm 8 0).toInt ≤ (Hm hm d).toInt + (gI hm 19 q * gW (gI hm 17 q) (gI hm 18 q)).toInt * k ∧ (Hm hm d).toInt + (gI hm 19 q * gW (gI hm 17 q) (gI hm 18 q)).toInt * k ≤ (gI hm 8 0).toInt) ∧ (-(gI hm 8 1).toInt ≤ (Mm hm).toInt + (gI hm 19 q * gX (gI hm 2) (gI hm 17 q) (gI hm 18 q)).toInt * k ∧ (Mm hm).toInt + (gI hm 19 q * gX (gI hm 2) (gI hm 17 q) (gI hm 18 q)).toInt * k ≤ (gI hm 8 1).toInt) ∧ (-(gI hm 8 2).toInt ≤ (Tm hm).toInt + (gI hm 19 q * gX (gI hm 3) (gI hm 17 q) (gI hm 18 q)).toInt * k ∧ (Tm hm).toInt + (gI hm 19 q * gX (gI hm 3) (gI hm 17 q) (gI hm 18 q)).toInt * k ≤ (gI hm 8 2).toInt)
theorem sl_rng (J : IB hm) : (0 ≤ (gI hm 8 0).toInt ∧ (gI hm 8 0).toInt ≤ 9999) ∧ (0 ≤ (gI hm 8 1).toInt ∧ (gI hm 8 1).toInt ≤ 9999) ∧ (0 ≤ (gI hm 8 2).toInt ∧ (gI hm 8 2).toInt ≤ 9999) := by
  obtain ⟨-, -, -, -, -, -, -, s0, s1, s2, -⟩ := J
  omega
theorem few_C (H : RR hc hm) {q : Nat} (hq : q < 6) (ha : endP hm (gI hm 17 q)) (hb : endP hm (gI hm 18 q)) (hr : 1 ≤ (gI hm 19 q).toInt ∧ (gI hm 19 q).toInt ≤ 50) {d : Int32} (f1 : gI hc 6 9 = Hm hm d) (f2 : gI hc 6 10 = Mm hm) (f3 : gI hc 6 11 = Tm hm) (n0 : ¬ VVi hm q d 0) : ∃ hc' r, fX5_fewestOf (nI q) hc = some (r, hc') ∧ onlyS hc hc' 13 ∧ (r = 0 → ∀ k, ¬ VVi hm q d k) ∧ (¬ r = 0 → VVi hm q d r.toInt ∧ ∀ k, VVi hm q d k → r.toInt.natAbs ≤ k.natAbs ∧ (k.natAbs = r.toInt.natAbs → k = r.toInt)) := by
  obtain ⟨p1, p2, p3, p4, p5⟩ := H.1.2.2.2.2.2.1
  obtain ⟨sl0, sl1, sl2⟩ := sl_rng H.2.1.2.1
  have m99 : (-99 : Int64).toInt = -99 := by decide +kernel
  have p99 : (99 : Int64).toInt = 99 := by decide +kernel
  obtain ⟨h1, a1, a2, a3, a4⟩ := e_reset hc 13 (-99) 99
  have H1 := RR_L a2 H
  have bd1 : bdS h1 13 := by unfold bdS; rw [a3, a4, m99, p99]; omega
  have nr : (-gI hm 19 q).toInt = -(gI hm 19 q).toInt := neg_rng (by omega)
  obtain ⟨h2, b1, b2, b3, b4⟩ := bE (e := gI hm 17 q) (st := -gI hm 19 q) H1 ha bd1
  have o2 := onlyS_t a2 b2
  have H2 := RR_L o2 H
  obtain ⟨h3, c1, c2, c3, c4⟩ := bE (e := gI hm 18 q) (st := gI hm 19 q) H2 hb b3
  have o3 := onlyS_t o2 c2
  have H3 := RR_L o3 H
  obtain ⟨h4, d1, d2, d3, d4⟩ := bSl (now := Hm hm d) (st := gI hm 19 q * gW (gI hm 17 q) (gI hm 18 q)) (w := 0) H3 (by omega) rfl sl0 c3
  have o4 := onlyS_t o3 d2
  have H4 := RR_L o4 H
  obtain ⟨h5, e1, e2, e3, e4⟩ := bSl (now := Mm hm) (st := gI hm 19 q * gX (gI hm 2) (gI hm 17 q) (gI hm 18 q)) (w := 1) H4 (by omega) rfl sl1 d3
  have o5 := onlyS_t o4 e2
  have H5 := RR_L o5 H
  obtain ⟨h6, g1, g2, g3, g4⟩ := bSl (now := Tm hm) (st := gI hm 19 q * gX (gI hm 3) (gI hm 17 q) (gI hm 18 q)) (w := 2) H5 (by omega) rfl sl2 e3
  have o6 := onlyS_t o5 g2
  have iff : ∀ k, inS h6 13 k ↔ VVi hm q d k := fun k => by
    rw [g4 k, e4 k, d4 k, c4 k, b4 k, nr]
    unfold VVi
    have : inS h1 13 k ↔ -99 ≤ k ∧ k ≤ 99 := by unfold inS; rw [a3, a4, m99, p99]
    rw [this]
    constructor
    · rintro ⟨⟨⟨⟨⟨z1, z2⟩, z3⟩, z4⟩, z5⟩, z6⟩
      exact ⟨z1, z2, z3, z4, z5, z6⟩
    · rintro ⟨z1, z2, z3, z4, z5, z6⟩
      exact ⟨⟨⟨⟨⟨z1, z2⟩, z3⟩, z4⟩, z5⟩, z6⟩
  have w0 : (nI 0 : Int32) = 0 := nI_0
  have w1 : (nI 1 : Int32) = 1 := by decide
  have w2 : (nI 2 : Int32) = 2 := by decide
  rw [w0] at d1
  rw [w1] at e1
  rw [w2] at g1
  have run : fX5_fewestOf (nI q) hc = bd (fX7_isEmpty 13 h6) (fun r21 h20 => if r21 = 0 then (if (lg_cmp (gL h20 13 0) (0 : Int64)) ≤ 0 then (some (((gL h20 13 1).toInt32), h20)) else (some (((gL h20 13 0).toInt32), h20))) else (some (0, h20))) := by
    unfold fX5_fewestOf
    rw [a1, bv_s]
    simp only [inb_n hq (by omega), ck_t, nI_clamp (show q < 2 ^ 31 by omega), onlyS_I a2, p2, p4, b1, bv_s, onlyS_I o2, p3, c1, (e_gains H3 hq ha hb).1, bd_s, onlyS_I o3, f1, d1, (e_gains H4 hq ha hb).2.1, onlyS_I o4, f2, e1, (e_gains H5 hq ha hb).2.2, onlyS_I o5, f3, g1]
  unfold fX7_isEmpty at run
  have n0' : ¬ inS h6 13 0 := fun z => n0 ((iff 0).mp z)
  by_cases c : gL h6 13 0 ≤ gL h6 13 1
  · rw [if_pos ((lg_cmp_le _ _).mpr c), bd_s, if_pos rfl] at run
    have c' := Int64.le_iff_toInt_le.mp c
    have lo : VVi hm q d (gL h6 13 0).toInt := (iff _).mp ⟨by omega, by omega⟩
    have hi : VVi hm q d (gL h6 13 1).toInt := (iff _).mp ⟨by omega, by omega⟩
    have lr := lo.1
    have hr1 := hi.1
    unfold inS at n0'
    by_cases c2 : gL h6 13 0 ≤ 0
    · rw [if_pos ((lg_cmp_le _ _).mpr c2)] at run
      have c2' := Int64.le_iff_toInt_le.mp c2
      rw [z64] at c2'
      have eR : (gL h6 13 1).toInt32.toInt = (gL h6 13 1).toInt := Jvm.Kit.i32_of_i64 (by omega) (by omega)
      refine ⟨h6, _, run, o6, fun z => ?_, fun _ => ⟨by rw [eR]; exact hi, fun k hk => ?_⟩⟩
      · rw [z, i32_z] at eR
        omega
      · have ik := (iff k).mpr hk
        unfold inS at ik
        rw [eR]
        omega
    · rw [if_neg (fun z => c2 ((lg_cmp_le _ _).mp z))] at run
      have c2' : ¬ (gL h6 13 0).toInt ≤ (0 : Int64).toInt := fun z => c2 (Int64.le_iff_toInt_le.mpr z)
      rw [z64] at c2'
      have eR : (gL h6 13 0).toInt32.toInt = (gL h6 13 0).toInt := Jvm.Kit.i32_of_i64 (by omega) (by omega)
      refine ⟨h6, _, run, o6, fun z => ?_, fun _ => ⟨by rw [eR]; exact lo, fun k hk => ?_⟩⟩
      · rw [z, i32_z] at eR
        omega
      · have ik := (iff k).mpr hk
        unfold inS at ik
        rw [eR]
        omega
  · rw [if_neg (fun z => c ((lg_cmp_le _ _).mp z)), bd_s, if_neg (by decide)] at run
    have c' : ¬ (gL h6 13 0).toInt ≤ (gL h6 13 1).toInt := fun z => c (Int64.le_iff_toInt_le.mpr z)
    refine ⟨h6, 0, run, o6, fun _ k hk => ?_, fun z => absurd rfl z⟩
    have ik := (iff k).mpr hk
    unfold inS at ik
    omega
/-- what the model asks of a run -/
def VVm (hm : HS) (q : Nat) (d n : Int32) : Prop := canP hm q n ∧ iabs (Hm hm d + pMu hm q n * gW (gI hm 17 q) (gI hm 18 q)) ≤ gI hm 8 0 ∧ iabs (Mm hm + pMu hm q n * gX (gI hm 2) (gI hm 17 q) (gI hm 18 q)) ≤ gI hm 8 1 ∧ iabs (Tm hm + pMu hm q n * gX (gI hm 3) (gI hm 17 q) (gI hm 18 q)) ≤ gI hm 8 2
theorem gW_r (a b : Int32) : -1 ≤ (gW a b).toInt ∧ (gW a b).toInt ≤ 1 := by
  unfold gW
  split <;> split <;> decide
theorem gX_r {x : Nat → Int32} {a b : Int32} {B : Int} (hB : 0 ≤ B ∧ B ≤ 99) (hx : ∀ i, i < nLd hm → -B ≤ (x i).toInt ∧ (x i).toInt ≤ B) (h15 : nLd hm ≤ 15) (ha : endP hm a) (hb : endP hm b) : -198 ≤ (gX x a b).toInt ∧ (gX x a b).toInt ≤ 198 := by
  have one : ∀ e : Int32, endP hm e → -99 ≤ (if e = -1 then 0 else x e.toNatClampNeg).toInt ∧ (if e = -1 then 0 else x e.toNatClampNeg).toInt ≤ 99 := by
    intro e he
    rcases he with rfl | ⟨i, hi, rfl, -⟩
    · rw [if_pos rfl, i32_z]; omega
    · rw [if_neg (fun z => m1_ne (by omega) z.symm), nI_clamp (by omega)]
      have := hx i hi
      omega
  have o1 := one a ha
  have o2 := one b hb
  unfold gX
  rw [fb_subI9 (by omega) (by omega)]
  omega
theorem lin_r {x st sl : Int32} {k : Int} {n ra g : Int32} (hx : -10000000 ≤ x.toInt ∧ x.toInt ≤ 10000000) (hn : n.toInt = k) (hk : -99 ≤ k ∧ k ≤ 99) (hra : 1 ≤ ra.toInt ∧ ra.toInt ≤ 50) (hg : -198 ≤ g.toInt ∧ g.toInt ≤ 198) : iabs (x + n * ra * g) ≤ sl ↔ -sl.toInt ≤ x.toInt + (ra * g).toInt * k ∧ x.toInt + (ra * g).toInt * k ≤ sl.toInt := by
  have m1 : (ra * g).toInt = ra.toInt * g.toInt ∧ -9900 ≤ (ra * g).toInt ∧ (ra * g).toInt ≤ 9900 := by
    have pb : (ra.toInt * g.toInt).natAbs ≤ 50 * 198 := by
      rw [Int.natAbs_mul]
      exact Nat.mul_le_mul (by omega) (by omega)
    have e := fb_mulI9 (x := ra) (y := g) (by omega) (by omega)
    omega
  have pb : (n.toInt * (ra * g).toInt).natAbs ≤ 99 * 9900 := by
    rw [Int.natAbs_mul]
    exact Nat.mul_le_mul (by omega) (by omega)
  have m2 : (n * (ra * g)).toInt = n.toInt * (ra * g).toInt := fb_mulI9 (by omega) (by omega)
  have e1 : (x + n * ra * g).toInt = x.toInt + (ra * g).toInt * k := by
    rw [Int32.mul_assoc, fb_addI9 (by omega) (by omega), m2, hn, Int.mul_comm]
  rw [i32_le, iabs_toInt (by rw [hn, Int.mul_comm] at pb; omega), e1]
  omega
theorem VV_iff (I : IL hm) (J : IB hm) {q : Nat} (ha : endP hm (gI hm 17 q)) (hb : endP hm (gI hm 18 q)) (hr : 1 ≤ (gI hm 19 q).toInt ∧ (gI hm 19 q).toInt ≤ 50) {d : Int32} (hd : 0 ≤ d ∧ d ≤ 600) {n : Int32} (hn : -99 ≤ n.toInt ∧ n.toInt ≤ 99) : VVm hm q d n ↔ VVi hm q d n.toInt := by
  have h15 := (VN_n I.1).1
  have m := pMu_rng (hm := hm) hr hn
  have ng := neg_rng (x := pMu hm q n) (by omega)
  have rH := H_rng I J d hd
  have rM := M_rng I J
  have rT := T_rng I J
  have g0 := gW_r (gI hm 17 q) (gI hm 18 q)
  have g1 := gX_r (B := 99) (by omega) (fun i hi => (I.2 i hi).2.1) h15 ha hb
  have g2 := gX_r (x := gI hm 3) (B := 99) (by omega) (fun i hi => by have := (I.2 i hi).2.2.1; omega) h15 ha hb
  have k0 := lin_r (x := Hm hm d) (st := 0) (sl := gI hm 8 0) (n := n) (ra := gI hm 19 q) (g := gW (gI hm 17 q) (gI hm 18 q)) (by omega) rfl hn hr (by omega)
  have k1 := lin_r (x := Mm hm) (st := 0) (sl := gI hm 8 1) (n := n) (ra := gI hm 19 q) (g := gX (gI hm 2) (gI hm 17 q) (gI hm 18 q)) (by omega) rfl hn hr g1
  have k2 := lin_r (x := Tm hm) (st := 0) (sl := gI hm 8 2) (n := n) (ra := gI hm 19 q) (g := gX (gI hm 3) (gI hm 17 q) (gI hm 18 q)) (by omega) rfl hn hr g2
  unfold VVm VVi canP
  rw [show pMu hm q n * gW (gI hm 17 q) (gI hm 18 q) = n * gI hm 19 q * gW (gI hm 17 q) (gI hm 18 q) from rfl, show pMu hm q n * gX (gI hm 2) (gI hm 17 q) (gI hm 18 q) = n * gI hm 19 q * gX (gI hm 2) (gI hm 17 q) (gI hm 18 q) from rfl, show pMu hm q n * gX (gI hm 3) (gI hm 17 q) (gI hm 18 q) = n * gI hm 19 q * gX (gI hm 3) (gI hm 17 q) (gI hm 18 q) from rfl, k0, k1, k2]
  unfold tkE
  rw [ng, m.1]
  have c1 : ∀ i, (gI hm 5 i).toInt + -(n.toInt * (gI hm 19 q).toInt) = (gI hm 5 i).toInt + -(gI hm 19 q).toInt * n.toInt := fun i => by rw [Int.neg_mul, Int.mul_comm n.toInt]
  have c2 : ∀ i, (gI hm 5 i).toInt + n.toInt * (gI hm 19 q).toInt = (gI hm 5 i).toInt + (gI hm 19 q).toInt * n.toInt := fun i => by rw [Int.mul_comm n.toInt]
  simp only [c1, c2]
  constructor
  · rintro ⟨⟨z1, z2⟩, z3, z4, z5⟩
    exact ⟨hn, z1, z2, z3, z4, z5⟩
  · rintro ⟨-, z1, z2, z3, z4, z5⟩
    exact ⟨⟨z1, z2⟩, z3, z4, z5⟩
theorem VV_0 (I : IL hm) (J : IB hm) {q : Nat} {d : Int32} (hd : 0 ≤ d ∧ d ≤ 600) (nb : ¬ Bm hm d) : ¬ VVi hm q d 0 := by
  rintro ⟨-, -, -, z0, z1, z2⟩
  have rH := H_rng I J d hd
  have rM := M_rng I J
  have rT := T_rng I J
  apply nb
  unfold Bm
  rw [i32_le, i32_le, i32_le, iabs_toInt (by omega), iabs_toInt (by omega), iabs_toInt (by omega)]
  simp only [Int.mul_zero] at z0 z1 z2
  omega
end TRI
