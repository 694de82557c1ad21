section SPN
theorem xor_nn {x y : Int64} (hy : 0 ≤ y.toInt) : 0 ≤ x ^^^ y ↔ 0 ≤ x.toInt := by
  rw [Jvm.Kit.i64_nonneg]
  have h1 : (x ^^^ y).toBitVec.msb = (x.toBitVec.msb ^^ y.toBitVec.msb) := BitVec.msb_xor
  rw [BitVec.msb_eq_toInt, BitVec.msb_eq_toInt, BitVec.msb_eq_toInt] at h1
  have e1 : (x ^^^ y).toBitVec.toInt = (x ^^^ y).toInt := rfl
  have e2 : x.toBitVec.toInt = x.toInt := rfl
  have e3 : y.toBitVec.toInt = y.toInt := rfl
  rw [e1, e2, e3, decide_eq_false (show ¬ y.toInt < 0 by omega), Bool.xor_false] at h1
  have h2 : ((x ^^^ y).toInt < 0) ↔ (x.toInt < 0) := by
    constructor
    · intro z; exact of_decide_eq_true (by rw [← h1]; exact decide_eq_true z)
    · intro z; exact of_decide_eq_true (by rw [h1]; exact decide_eq_true z)
  omega
theorem lfd_i {x y : Int64} (hx : -4611686018427387904 < x.toInt ∧ x.toInt < 4611686018427387904) (hy : 0 < y.toInt) : (lfd x y).toInt = x.toInt / y.toInt := by
  have hd : (x / y).toInt = x.toInt.tdiv y.toInt := Jvm.Kit.i64_div (by omega)
  unfold lfd
  by_cases c : 0 ≤ x.toInt
  · rw [if_pos ((lg_cmp_ge _ _).mpr ((xor_nn (by omega)).mpr c)), hd, Int.tdiv_eq_ediv_of_nonneg c]
  · rw [if_neg (fun z => c ((xor_nn (by omega)).mp ((lg_cmp_ge _ _).mp z)))]
    have e : x.toInt.tdiv y.toInt = -((-x.toInt) / y.toInt) := by
      rw [← Int.tdiv_eq_ediv_of_nonneg (show 0 ≤ -x.toInt by omega), Int.neg_tdiv, Int.neg_neg]
    have h1 := Int.mul_ediv_add_emod (-x.toInt) y.toInt
    have h2 := Int.emod_nonneg (-x.toInt) (show y.toInt ≠ 0 by omega)
    have h3 := Int.emod_lt_of_pos (-x.toInt) hy
    have h4 : 0 ≤ (-x.toInt) / y.toInt := Int.ediv_nonneg (by omega) (by omega)
    have h5 : (-x.toInt) / y.toInt ≤ -x.toInt := Int.ediv_le_self _ (by omega)
    generalize hq : (-x.toInt) / y.toInt = q at *
    have h7 : 0 ≤ y.toInt * q := Int.mul_nonneg (by omega) h4
    have em : (x / y * y).toInt = -(y.toInt * q) := by
      have : (x / y).toInt * y.toInt = -(y.toInt * q) := by rw [hd, e, Int.neg_mul, Int.mul_comm]
      rw [Jvm.Kit.i64_mul (by omega) (by omega), this]
    by_cases c2 : x / y * y = x
    · rw [if_pos ((lg_cmp_eq _ _).mpr c2), hd, e]
      have : (x / y * y).toInt = x.toInt := by rw [c2]
      have h6 : x.toInt = -q * y.toInt := by rw [Int.neg_mul, Int.mul_comm q]; omega
      rw [h6, Int.mul_ediv_cancel _ (by omega)]
    · rw [if_neg (fun z => c2 ((lg_cmp_eq _ _).mp z))]
      have ne : ¬ -(y.toInt * q) = x.toInt := fun z => c2 (Int64.toInt_inj.mp (by rw [em]; exact z))
      have e1 : (x / y - 1).toInt = -q - 1 := by
        have k1 : (1 : Int64).toInt = 1 := by decide +kernel
        rw [Jvm.Kit.i64_sub (by rw [hd, e, k1]; omega) (by rw [hd, e, k1]; omega), hd, e, k1]
      rw [e1]
      apply Int.le_antisymm
      · rw [Int.le_ediv_iff_mul_le hy]
        have : (-q - 1) * y.toInt = -(y.toInt * q) - y.toInt := by rw [Int.sub_mul, Int.neg_mul, Int.one_mul, Int.mul_comm q]
        omega
      · have : x.toInt / y.toInt < -q := by
          rw [Int.ediv_lt_iff_lt_mul hy, Int.neg_mul, Int.mul_comm q]
          omega
        omega
def inS (h : HS) (a : Nat) (k : Int) : Prop := (gL h a 0).toInt ≤ k ∧ k ≤ (gL h a 1).toInt
def bdS (h : HS) (a : Nat) : Prop := (-4503599627370496 ≤ (gL h a 0).toInt ∧ (gL h a 0).toInt ≤ 4503599627370496) ∧ (-4503599627370496 ≤ (gL h a 1).toInt ∧ (gL h a 1).toInt ≤ 4503599627370496)
def sm50 (x : Int64) : Prop := -1125899906842624 ≤ x.toInt ∧ x.toInt ≤ 1125899906842624
/-- only the span changes -/
def onlyS (h h' : HS) (a : Nat) : Prop := h'.1 = h.1 ∧ h'.2.2 = h.2.2 ∧ ∀ b j, ¬ b = a → gL h' b j = gL h b j
theorem onlyS_t {h h1 h2 : HS} {a : Nat} (x : onlyS h h1 a) (y : onlyS h1 h2 a) : onlyS h h2 a := ⟨y.1.trans x.1, y.2.1.trans x.2.1, fun b j hb => (y.2.2 b j hb).trans (x.2.2 b j hb)⟩
theorem onlyS_I {h h' : HS} {a : Nat} (x : onlyS h h' a) (b j : Nat) : gI h' b j = gI h b j := by unfold gI; rw [x.1]
theorem onlyS_p {h h' : HS} {a k : Nat} {v : Int64} (x : onlyS h h' a) : onlyS h (pL h' a k v) a := ⟨x.1, x.2.1, fun b j hb => by rw [gL_pL, if_neg (fun z => hb z.1)]; exact x.2.2 b j hb⟩
theorem onlyS_r {h : HS} {a : Nat} : onlyS h h a := ⟨rfl, rfl, fun _ _ _ => rfl⟩
theorem e_reset (h : HS) (a : Nat) (x y : Int64) : ∃ h', fX7_reset a x y h = some h' ∧ onlyS h h' a ∧ gL h' a 0 = x ∧ gL h' a 1 = y := by
  unfold fX7_reset
  simp only [nm_e1]
  exact ⟨_, rfl, onlyS_p (onlyS_p onlyS_r), by rw [gL_pL, if_neg (by omega), gL_pL, if_pos ⟨rfl, rfl⟩], by rw [gL_pL, if_pos ⟨rfl, rfl⟩]⟩
theorem lmax_i (x y : Int64) : (lmax x y).toInt = max x.toInt y.toInt := by
  unfold lmax
  by_cases c : y < x
  · rw [if_pos c]
    have := Int64.lt_iff_toInt_lt.mp c
    omega
  · rw [if_neg c]
    have : ¬ y.toInt < x.toInt := fun z => c (Int64.lt_iff_toInt_lt.mpr z)
    omega
theorem lmin_i (x y : Int64) : (lmin x y).toInt = min x.toInt y.toInt := by
  unfold lmin
  by_cases c : y < x
  · rw [if_pos c]
    have := Int64.lt_iff_toInt_lt.mp c
    omega
  · rw [if_neg c]
    have : ¬ y.toInt < x.toInt := fun z => c (Int64.lt_iff_toInt_lt.mpr z)
    omega
theorem z64 : (0 : Int64).toInt = 0 := rfl
theorem nzL_i {x : Int64} (h : ¬ x.toInt = 0) : nzL x = true := decide_eq_true (fun z => h (by rw [z]; rfl))
theorem ediv_abs {x y : Int} (hy : 0 < y) : (x / y).natAbs ≤ x.natAbs := by
  by_cases c : 0 ≤ x
  · have h1 : 0 ≤ x / y := Int.ediv_nonneg c (by omega)
    have h2 : x / y ≤ x := Int.ediv_le_self _ c
    omega
  · have h1 : x ≤ x / y := by
      rw [Int.le_ediv_iff_mul_le hy]
      have : x * y ≤ x * 1 := Int.mul_le_mul_of_nonpos_left (by omega) (by omega)
      omega
    have h2 : x / y < 0 := by
      rw [Int.ediv_lt_iff_lt_mul hy]
      omega
    omega
theorem e_nar71 {h : HS} {a : Nat} {sz fr tt : Int64} (hz : 0 < sz.toInt) (hf : -2251799813685248 ≤ fr.toInt ∧ fr.toInt ≤ 2251799813685248) (ht : -2251799813685248 ≤ tt.toInt ∧ tt.toInt ≤ 2251799813685248) (hb : bdS h a) : ∃ h', fX7_narrow_71 a sz fr tt h = some h' ∧ onlyS h h' a ∧ bdS h' a ∧ ∀ k, inS h' a k ↔ inS h a k ∧ fr.toInt ≤ sz.toInt * k ∧ sz.toInt * k ≤ tt.toInt := by
  have ng : (-fr).toInt = -fr.toInt := Jvm.Kit.i64_neg (by omega)
  have f1 := lfd_i (x := -fr) (y := sz) (by omega) hz
  have f2 := lfd_i (x := tt) (y := sz) (by omega) hz
  have a1 := ediv_abs (x := -fr.toInt) hz
  have a2 := ediv_abs (x := tt.toInt) hz
  rw [ng] at f1
  have f3 : (-(lfd (-fr) sz)).toInt = -((-fr.toInt) / sz.toInt) := by rw [Jvm.Kit.i64_neg (by rw [f1]; omega), f1]
  unfold fX7_narrow_71
  simp only [nzL_i (show ¬ sz.toInt = 0 by omega), ck_t, nm_e1]
  have g1 : gL (pL (pL h a 0 (lmax (gL h a 0) (-(lfd (-fr) sz)))) a 1 (lmin (gL (pL h a 0 (lmax (gL h a 0) (-(lfd (-fr) sz)))) a 1) (lfd tt sz))) a 0 = lmax (gL h a 0) (-(lfd (-fr) sz)) := by rw [gL_pL, if_neg (by omega), gL_pL, if_pos ⟨rfl, rfl⟩]
  have g2 : gL (pL (pL h a 0 (lmax (gL h a 0) (-(lfd (-fr) sz)))) a 1 (lmin (gL (pL h a 0 (lmax (gL h a 0) (-(lfd (-fr) sz)))) a 1) (lfd tt sz))) a 1 = lmin (gL h a 1) (lfd tt sz) := by rw [gL_pL, if_pos ⟨rfl, rfl⟩, gL_pL, if_neg (by omega)]
  refine ⟨_, rfl, onlyS_p (onlyS_p onlyS_r), ?_, fun k => ?_⟩
  · unfold bdS at hb ⊢
    rw [g1, g2, lmax_i, lmin_i, f3, f2]
    omega
  · unfold inS
    rw [g1, g2, lmax_i, lmin_i, f3, f2]
    have q1 : (-((-fr.toInt) / sz.toInt) ≤ k) ↔ fr.toInt ≤ sz.toInt * k := by
      have : (-k ≤ (-fr.toInt) / sz.toInt) ↔ -k * sz.toInt ≤ -fr.toInt := Int.le_ediv_iff_mul_le hz
      rw [Int.neg_mul, Int.mul_comm k] at this
      omega
    have q2 : (k ≤ tt.toInt / sz.toInt) ↔ sz.toInt * k ≤ tt.toInt := by
      have : (k ≤ tt.toInt / sz.toInt) ↔ k * sz.toInt ≤ tt.toInt := Int.le_ediv_iff_mul_le hz
      rw [Int.mul_comm k] at this
      exact this
    rw [← q1, ← q2]
    omega
theorem e_narrow {h : HS} {a : Nat} {s st l m : Int64} (h1 : sm50 s) (h2 : sm50 st) (h3 : sm50 l) (h4 : sm50 m) (hb : bdS h a) : ∃ h', fX7_narrow a s st l m h = some h' ∧ onlyS h h' a ∧ bdS h' a ∧ ∀ k, inS h' a k ↔ inS h a k ∧ l.toInt ≤ s.toInt + st.toInt * k ∧ s.toInt + st.toInt * k ≤ m.toInt := by
  unfold sm50 at *
  unfold fX7_narrow fX7_narrow_20
  have no : ¬ (l.toInt ≤ s.toInt ∧ s.toInt ≤ m.toInt) → st.toInt = 0 → ∃ h', bv (fX7_reset a 0 (-1) h) (fun h7 => some h7) = some h' ∧ onlyS h h' a ∧ bdS h' a ∧ ∀ k, inS h' a k ↔ inS h a k ∧ l.toInt ≤ s.toInt + st.toInt * k ∧ s.toInt + st.toInt * k ≤ m.toInt := by
    intro z z0
    obtain ⟨h', r1, r2, r3, r4⟩ := e_reset h a 0 (-1)
    have m1 : (-1 : Int64).toInt = -1 := by decide +kernel
    rw [r1, bv_s]
    refine ⟨h', rfl, r2, ?_, fun k => ?_⟩
    · unfold bdS; rw [r3, r4, z64, m1]; omega
    · unfold inS; rw [r3, r4, z64, m1, z0, Int.zero_mul]; omega
  by_cases c0 : st = 0
  · have z0 : st.toInt = 0 := by rw [c0]; rfl
    rw [if_pos ((lg_cmp_eq _ _).mpr c0)]
    by_cases c1 : s < l
    · rw [if_pos ((lg_cmp_lt _ _).mpr c1)]
      have := Int64.lt_iff_toInt_lt.mp c1
      exact no (by omega) z0
    · rw [if_neg (fun z => c1 ((lg_cmp_lt _ _).mp z))]
      have c1' : ¬ s.toInt < l.toInt := fun z => c1 (Int64.lt_iff_toInt_lt.mpr z)
      by_cases c2 : s ≤ m
      · rw [if_pos ((lg_cmp_le _ _).mpr c2)]
        have := Int64.le_iff_toInt_le.mp c2
        refine ⟨h, rfl, onlyS_r, hb, fun k => ?_⟩
        rw [z0, Int.zero_mul]
        constructor
        · intro z; exact ⟨z, by omega, by omega⟩
        · intro z; exact z.1
      · rw [if_neg (fun z => c2 ((lg_cmp_le _ _).mp z))]
        have : ¬ s.toInt ≤ m.toInt := fun z => c2 (Int64.le_iff_toInt_le.mpr z)
        exact no (by omega) z0
  · have n0 : ¬ st.toInt = 0 := fun z => c0 (Int64.toInt_inj.mp z)
    rw [if_neg (fun z => c0 ((lg_cmp_eq _ _).mp z)), nm_e1]
    unfold fX7_narrow_52 labs
    by_cases c1 : st ≤ 0
    · have c1' := Int64.le_iff_toInt_le.mp c1
      rw [z64] at c1'
      rw [if_pos ((lg_cmp_le _ _).mpr c1), if_pos ((lg_cmp_le _ _).mpr c1), if_neg (Int64.not_lt.mpr c1)]
      have e1 : (-st).toInt = -st.toInt := Jvm.Kit.i64_neg (by omega)
      have e2 : (s - m).toInt = s.toInt - m.toInt := Jvm.Kit.i64_sub (by omega) (by omega)
      have e3 : (s - l).toInt = s.toInt - l.toInt := Jvm.Kit.i64_sub (by omega) (by omega)
      obtain ⟨h', r1, r2, r3, r4⟩ := e_nar71 (h := h) (a := a) (sz := -st) (fr := s - m) (tt := s - l) (by omega) (by omega) (by omega) hb
      refine ⟨h', r1, r2, r3, fun k => ?_⟩
      rw [r4 k, e1, e2, e3, Int.neg_mul]
      constructor <;> rintro ⟨z, z1, z2⟩ <;> exact ⟨z, by omega, by omega⟩
    · have c1' : ¬ st.toInt ≤ 0 := fun z => c1 (Int64.le_iff_toInt_le.mpr z)
      rw [if_neg (fun z => c1 ((lg_cmp_le _ _).mp z)), if_neg (fun z => c1 ((lg_cmp_le _ _).mp z)), if_pos (Int64.not_le.mp c1)]
      have e2 : (l - s).toInt = l.toInt - s.toInt := Jvm.Kit.i64_sub (by omega) (by omega)
      have e3 : (m - s).toInt = m.toInt - s.toInt := Jvm.Kit.i64_sub (by omega) (by omega)
      obtain ⟨h', r1, r2, r3, r4⟩ := e_nar71 (h := h) (a := a) (sz := st) (fr := l - s) (tt := m - s) (by omega) (by omega) (by omega) hb
      refine ⟨h', r1, r2, r3, fun k => ?_⟩
      rw [r4 k, e2, e3]
      constructor <;> rintro ⟨z, z1, z2⟩ <;> exact ⟨z, by omega, by omega⟩
theorem RR_L {hc hc' hm : HS} {a : Nat} (s : onlyS hc hc' a) (H : RR hc hm) : RR hc' hm := RR_cg (fun b j _ => onlyS_I s b j) cg_rf H
end SPN
