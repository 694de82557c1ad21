section TWO
variable {hc hm : HS}
/-- a pair, by how much the first one changes: the model's test -/
def gmP (A B Mb xa xb ya yb E F G c : Int) : Prop := ¬ c = 0 ∧ ¬ E - c = 0 ∧ 0 ≤ B + (E - c) ∧ B + (E - c) ≤ Mb ∧ xa * c + xb * (E - c) = F ∧ ya * c + yb * (E - c) = G
theorem lin_eq (xa xb E F k : Int) : (F - xb * E ≤ 0 + (xa - xb) * k ∧ 0 + (xa - xb) * k ≤ F - xb * E) ↔ xa * k + xb * (E - k) = F := by
  rw [Int.sub_mul, Int.mul_sub]
  omega
/-- three tries -/
theorem firstC {v1 : Int64} {h : HS} (hb : bdS h 10) : ∃ R, fX11_firstChange v1 h = some (R, h) ∧ (R.toInt = 0 → ∀ c, inS h 10 c → c = 0 ∨ c = v1.toInt) ∧ (¬ R.toInt = 0 → inS h 10 R.toInt ∧ ¬ R.toInt = v1.toInt ∧ ∀ c, inS h 10 c → c < R.toInt → c = 0 ∨ c = v1.toInt) := by
  obtain ⟨⟨b1, b2⟩, b3, b4⟩ := hb
  have k1 : (1 : Int64).toInt = 1 := by decide +kernel
  have key : ∀ (k t : Nat) (x : Int64), t + k = 3 → x.toInt = (gL h 10 0).toInt + t → (∀ c, (gL h 10 0).toInt ≤ c → c < x.toInt → c = 0 ∨ c = v1.toInt) → ∀ n, k < n → ∃ R, fX11_firstChange_11 n v1 x (nI t) h = some (R, h) ∧ (R.toInt = 0 → ∀ c, inS h 10 c → c = 0 ∨ c = v1.toInt) ∧ (¬ R.toInt = 0 → inS h 10 R.toInt ∧ ¬ R.toInt = v1.toInt ∧ ∀ c, inS h 10 c → c < R.toInt → c = 0 ∨ c = v1.toInt) := by
    intro k
    induction k with
    | zero =>
      intro t x ht hx hl n hn
      have w0 := hl (gL h 10 0).toInt (by omega) (by omega)
      have w1 := hl ((gL h 10 0).toInt + 1) (by omega) (by omega)
      have w2 := hl ((gL h 10 0).toInt + 2) (by omega) (by omega)
      omega
    | succ k ih =>
      intro t x ht hx hl n hn
      obtain ⟨n', rfl⟩ := fuel1 hn
      rw [fX11_firstChange_11, if_neg (by rw [show (3 : Int32) = nI 3 by decide]; exact nI_ge (by omega) (by omega))]
      by_cases c1 : gL h 10 1 < x
      · rw [if_pos ((lg_cmp_gt _ _).mpr c1)]
        have := Int64.lt_iff_toInt_lt.mp c1
        exact ⟨0, rfl, fun _ c hc => hl c hc.1 (by unfold inS at hc; omega), fun z => absurd z64 z⟩
      · rw [if_neg (fun z => c1 ((lg_cmp_gt _ _).mp z))]
        have c1' : ¬ (gL h 10 1).toInt < x.toInt := fun z => c1 (Int64.lt_iff_toInt_lt.mpr z)
        have nx : x.toInt = 0 ∨ x.toInt = v1.toInt → ∃ R, fX11_firstChange_43 (fX11_firstChange_11 n') v1 x (nI t) h = some (R, h) ∧ (R.toInt = 0 → ∀ c, inS h 10 c → c = 0 ∨ c = v1.toInt) ∧ (¬ R.toInt = 0 → inS h 10 R.toInt ∧ ¬ R.toInt = v1.toInt ∧ ∀ c, inS h 10 c → c < R.toInt → c = 0 ∨ c = v1.toInt) := by
          intro hz
          have e : (x + 1).toInt = x.toInt + 1 := by rw [Jvm.Kit.i64_add (by omega) (by omega), k1]
          unfold fX11_firstChange_43
          rw [nm_e1, nm_e1, nI_1]
          refine ih (t + 1) (x + 1) (by omega) (by omega) (fun c h1 h2 => ?_) n' (by omega)
          by_cases z : c = x.toInt
          · rw [z]; exact hz
          · exact hl c h1 (by omega)
        by_cases c2 : x = 0
        · rw [if_pos ((lg_cmp_eq _ _).mpr c2)]
          exact nx (Or.inl (by rw [c2]; rfl))
        · rw [if_neg (fun z => c2 ((lg_cmp_eq _ _).mp z))]
          by_cases c3 : x = v1
          · rw [if_pos ((lg_cmp_eq _ _).mpr c3)]
            exact nx (Or.inr (by rw [c3]))
          · rw [if_neg (fun z => c3 ((lg_cmp_eq _ _).mp z))]
            exact ⟨x, rfl, fun z => absurd (Int64.toInt_inj.mp z) c2, fun _ => ⟨⟨by omega, by omega⟩, fun z => c3 (Int64.toInt_inj.mp z), fun c h1 h2 => hl c h1.1 h2⟩⟩
  unfold fX11_firstChange
  rw [nm_e1]
  have := key 3 0 (gL h 10 0) (by omega) (by omega) (fun c h1 h2 => by omega) FU (FU_gt (by omega))
  rw [nI_0] at this
  exact this
theorem i64_small (x : Int32) : sm50 x.toInt64 ∧ x.toInt64.toInt = x.toInt := by
  have := fb_rng9 x
  unfold sm50
  rw [Int32.toInt_toInt64]
  omega
/-- one pair, by the class -/
theorem pair_C (H : RR hc hm) {a b : Nat} (ha : a < nLd hm) (hb : b < nLd hm) {v5 v7 v9 : Int64} (r5 : -8589934592 ≤ v5.toInt ∧ v5.toInt ≤ 8589934592) (r7 : -8589934592 ≤ v7.toInt ∧ v7.toInt ≤ 8589934592) (r9 : -8589934592 ≤ v9.toInt ∧ v9.toInt ≤ 8589934592) :
    ∃ hc' R, (∀ (K : Int64 → Int64 → Int64 → Int32 → Int32 → HS → Option (Int32 × HS)) (n : Nat) (v11 : Int32), fX11_two_81 K (n + 1) v5 v7 v9 v11 (nI a) (nI b) hc = if lg_cmp R 0 = 0 then fX11_two_81 K n v5 v7 v9 v11 (nI a) (nI (b + 1)) hc' else bv (fX11_tellFirstPair (nI a) (nI b) R.toInt32 (v5 - R).toInt32 hc') (fun h31 => fX11_two_81 K n v5 v7 v9 (v11 + 1) (nI a) (nI (b + 1)) h31)) ∧ onlyS hc hc' 10 ∧
      (R.toInt = 0 → ∀ c, -(gI hm 5 a).toInt ≤ c → c ≤ (gI hm 4 a).toInt - (gI hm 5 a).toInt → ¬ gmP (gI hm 5 a).toInt (gI hm 5 b).toInt (gI hm 4 b).toInt (gI hm 2 a).toInt (gI hm 2 b).toInt (gI hm 3 a).toInt (gI hm 3 b).toInt v5.toInt v7.toInt v9.toInt c) ∧
      (¬ R.toInt = 0 → (-(gI hm 5 a).toInt ≤ R.toInt ∧ R.toInt ≤ (gI hm 4 a).toInt - (gI hm 5 a).toInt) ∧ gmP (gI hm 5 a).toInt (gI hm 5 b).toInt (gI hm 4 b).toInt (gI hm 2 a).toInt (gI hm 2 b).toInt (gI hm 3 a).toInt (gI hm 3 b).toInt v5.toInt v7.toInt v9.toInt R.toInt ∧ ∀ c, -(gI hm 5 a).toInt ≤ c → c < R.toInt → ¬ gmP (gI hm 5 a).toInt (gI hm 5 b).toInt (gI hm 4 b).toInt (gI hm 2 a).toInt (gI hm 2 b).toInt (gI hm 3 a).toInt (gI hm 3 b).toInt v5.toInt v7.toInt v9.toInt c) := by
  have h15 := RR_15 H
  obtain ⟨-, ax, ay, a1, a2, a3⟩ := H.2.1.1.2 a ha
  obtain ⟨-, bx, bY, b1, b2, b3⟩ := H.2.1.1.2 b hb
  have room : ∀ i, i < nLd hm → fX4_room (nI i) hc = some (gI hm 4 i - gI hm 5 i, hc) := fun i hi => by
    unfold fX4_room
    rw [f_thereC (by omega) (RR_eC H), bd_s, if10s, if_pos (show ∃ a, a < nLd hm ∧ nI i = nI a from ⟨i, hi, rfl⟩)]
    simp only [inb_n (show i < 15 by omega) (by omega), ck_t, nI_clamp (show i < 2 ^ 31 by omega)]
    rw [H.1.1.2.2.2.2.1 i, H.1.1.2.2.2.2.2 i]
  have tA : (gI hm 5 a).toInt64.toInt = (gI hm 5 a).toInt := (i64_small _).2
  have tB : (gI hm 5 b).toInt64.toInt = (gI hm 5 b).toInt := (i64_small _).2
  have rA : (gI hm 4 a - gI hm 5 a).toInt = (gI hm 4 a).toInt - (gI hm 5 a).toInt := fb_subI9 (by omega) (by omega)
  have rB : (gI hm 4 b - gI hm 5 b).toInt = (gI hm 4 b).toInt - (gI hm 5 b).toInt := fb_subI9 (by omega) (by omega)
  have nA : (-gI hm 5 a).toInt = -(gI hm 5 a).toInt := neg_rng (by omega)
  have l1 : (lmax (-gI hm 5 a).toInt64 (v5 - (gI hm 4 b - gI hm 5 b).toInt64)).toInt = max (-(gI hm 5 a).toInt) (v5.toInt - ((gI hm 4 b).toInt - (gI hm 5 b).toInt)) := by
    rw [lmax_i, (i64_small _).2, nA, Jvm.Kit.i64_sub (by rw [(i64_small _).2]; omega) (by rw [(i64_small _).2]; omega), (i64_small _).2, rB]
  have l2 : (lmin (gI hm 4 a - gI hm 5 a).toInt64 (v5 + (gI hm 5 b).toInt64)).toInt = min ((gI hm 4 a).toInt - (gI hm 5 a).toInt) (v5.toInt + (gI hm 5 b).toInt) := by
    rw [lmin_i, (i64_small _).2, rA, Jvm.Kit.i64_add (by rw [tB]; omega) (by rw [tB]; omega), tB]
  obtain ⟨h1, s1, s2, s3, s4⟩ := e_reset hc 10 (lmax (-gI hm 5 a).toInt64 (v5 - (gI hm 4 b - gI hm 5 b).toInt64)) (lmin (gI hm 4 a - gI hm 5 a).toInt64 (v5 + (gI hm 5 b).toInt64))
  have bf : fX11_boundFirst (nI a) (nI b) v5 hc = some h1 := by
    unfold fX11_boundFirst
    rw [room b hb, bd_s]
    simp only [inb_n (show a < 15 by omega) (by omega), inb_n (show b < 15 by omega) (by omega), ck_t, nI_clamp (show a < 2 ^ 31 by omega), nI_clamp (show b < 2 ^ 31 by omega), nm_e1, room a ha, bd_s, H.1.1.2.2.2.2.2, s1, bv_s]
  have bd1 : bdS h1 10 := by unfold bdS; rw [s3, s4, l1, l2]; omega
  have i1 : ∀ c, inS h1 10 c ↔ (-(gI hm 5 a).toInt ≤ c ∧ c ≤ (gI hm 4 a).toInt - (gI hm 5 a).toInt) ∧ 0 ≤ (gI hm 5 b).toInt + (v5.toInt - c) ∧ (gI hm 5 b).toInt + (v5.toInt - c) ≤ (gI hm 4 b).toInt := fun c => by
    unfold inS; rw [s3, s4, l1, l2]; omega
  have nar : ∀ (h : HS) (z : Nat) (v : Int64), (z = 2 ∨ z = 3) → (-8589934592 ≤ v.toInt ∧ v.toInt ≤ 8589934592) → bdS h 10 → ∃ h', fX7_fix 10 0 (gI hm z a - gI hm z b).toInt64 (v - (gI hm z b).toInt64 * v5) h = some h' ∧ onlyS h h' 10 ∧ bdS h' 10 ∧ ∀ k, inS h' 10 k ↔ inS h 10 k ∧ (gI hm z a).toInt * k + (gI hm z b).toInt * (v5.toInt - k) = v.toInt := by
    intro h z v hz hv hbd
    have rz : (-99 ≤ (gI hm z a).toInt ∧ (gI hm z a).toInt ≤ 99) ∧ (-99 ≤ (gI hm z b).toInt ∧ (gI hm z b).toInt ≤ 99) := by
      rcases hz with rfl | rfl
      · exact ⟨ax, bx⟩
      · exact ⟨by omega, by omega⟩
    have d1 : (gI hm z a - gI hm z b).toInt = (gI hm z a).toInt - (gI hm z b).toInt := fb_subI9 (by omega) (by omega)
    have pb : ((gI hm z b).toInt * v5.toInt).natAbs ≤ 99 * 8589934592 := by
      rw [Int.natAbs_mul]
      exact Nat.mul_le_mul (by omega) (by omega)
    have m1 : ((gI hm z b).toInt64 * v5).toInt = (gI hm z b).toInt * v5.toInt := by
      rw [Jvm.Kit.i64_mul (by rw [(i64_small _).2]; omega) (by rw [(i64_small _).2]; omega), (i64_small _).2]
    have m2 : (v - (gI hm z b).toInt64 * v5).toInt = v.toInt - (gI hm z b).toInt * v5.toInt := by
      rw [Jvm.Kit.i64_sub (by rw [m1]; omega) (by rw [m1]; omega), m1]
    obtain ⟨h', n1, n2, n3, n4⟩ := e_narrow (h := h) (a := 10) (s := 0) (st := (gI hm z a - gI hm z b).toInt64) (l := v - (gI hm z b).toInt64 * v5) (m := v - (gI hm z b).toInt64 * v5) (by unfold sm50; rw [z64]; omega) (i64_small _).1 (by unfold sm50; rw [m2]; omega) (by unfold sm50; rw [m2]; omega) hbd
    refine ⟨h', by unfold fX7_fix; rw [n1, bv_s], n2, n3, fun k => ?_⟩
    rw [n4 k, m2, z64, (i64_small _).2, d1, lin_eq]
  obtain ⟨h2, t1, t2, t3, t4⟩ := nar h1 2 v7 (Or.inl rfl) r7 bd1
  obtain ⟨h3, u1, u2, u3, u4⟩ := nar h2 3 v9 (Or.inr rfl) r9 t3
  obtain ⟨R, w1, w2, w3⟩ := firstC (v1 := v5) u3
  have o1 := s2
  have o2 := onlyS_t s2 t2
  have o3 := onlyS_t o2 u2
  have iff : ∀ c, inS h3 10 c ∧ ¬ c = 0 ∧ ¬ c = v5.toInt ↔ (-(gI hm 5 a).toInt ≤ c ∧ c ≤ (gI hm 4 a).toInt - (gI hm 5 a).toInt) ∧ gmP (gI hm 5 a).toInt (gI hm 5 b).toInt (gI hm 4 b).toInt (gI hm 2 a).toInt (gI hm 2 b).toInt (gI hm 3 a).toInt (gI hm 3 b).toInt v5.toInt v7.toInt v9.toInt c := fun c => by
    rw [u4 c, t4 c, i1 c]
    unfold gmP
    constructor
    · rintro ⟨⟨⟨⟨z1, z2⟩, z3⟩, z4⟩, z5, z6⟩
      exact ⟨z1, z5, by omega, z2.1, z2.2, z3, z4⟩
    · rintro ⟨z1, z2, z3, z4, z5, z6, z7⟩
      exact ⟨⟨⟨⟨z1, z4, z5⟩, z6⟩, z7⟩, z2, by omega⟩
  refine ⟨h3, R, fun K n v11 => ?_, o3, fun z c h1 h2 hg => ?_, fun z => ?_⟩
  · rw [fX11_two_81, RR_eC H, if_neg (nI_ge hb (by omega)), bf, bv_s]
    simp only [inb_n (show a < 15 by omega) (by omega), inb_n (show b < 15 by omega) (by omega), ck_t, nI_clamp (show a < 2 ^ 31 by omega), nI_clamp (show b < 2 ^ 31 by omega), nm_e1, onlyS_I o1, H.1.1.2.2.1, t1, bv_s, onlyS_I o2, H.1.1.2.2.2.1, u1, w1, bd_s, nI_1]
  · obtain ⟨q1, q2, q3⟩ := (iff c).mpr ⟨⟨h1, h2⟩, hg⟩
    rcases w2 z c q1 with y | y
    · exact q2 y
    · exact q3 y
  · obtain ⟨q1, q2, q3⟩ := w3 z
    have y := (iff R.toInt).mp ⟨q1, z, q2⟩
    refine ⟨y.1, y.2, fun c h1 h2 hg => ?_⟩
    obtain ⟨k1, k2, k3⟩ := (iff c).mpr ⟨⟨h1, by have := y.1; omega⟩, hg⟩
    rcases q3 c k1 h2 with x | x
    · exact k2 x
    · exact k3 x
end TWO
