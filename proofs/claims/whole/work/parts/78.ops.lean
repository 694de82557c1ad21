section TWP
variable {hc hm : HS}
theorem two_stepM (I : IL hm) {a b v : Nat} (ha : a < nLd hm) (hb : b < nLd hm) (hv : (v : Int) ≤ (gI hm 4 a).toInt) {v5 v7 v9 : Int64} (r5 : -8589934592 ≤ v5.toInt ∧ v5.toInt ≤ 8589934592) (K1 : Int64 → Int64 → Int64 → Int32 → Int32 → HS → Option (Int32 × HS)) (K2 : Int64 → Int64 → Int64 → Int32 → Int32 → Int32 → HS → Option (Int32 × HS)) (n : Nat) (v11 : Int32) :
    (gmP (gI hm 5 a).toInt (gI hm 5 b).toInt (gI hm 4 b).toInt (gI hm 2 a).toInt (gI hm 2 b).toInt (gI hm 3 a).toInt (gI hm 3 b).toInt v5.toInt v7.toInt v9.toInt ((v : Int) - (gI hm 5 a).toInt) → fX12_two_89 K1 K2 (n + 1) v5 v7 v9 v11 (nI a) (nI b) 0 (nI v) hm = if v11 ≤ 0 then bv (fX12_tell (nI a) hm) (fun h43 => bv (fX12_tell (nI b) h43) (fun h44 => bv (fX12_tell (nI v) h44) (fun h45 => bv (fX12_tell (((gI h45 5 b).toInt64 + (v5 - (nI v - gI hm 5 a).toInt64)).toInt32) h45) (fun h47 => fX12_two_89 K1 K2 n v5 v7 v9 v11 (nI a) (nI b) 1 (nI (v + 1)) h47)))) else fX12_two_89 K1 K2 n v5 v7 v9 v11 (nI a) (nI b) 1 (nI (v + 1)) hm) ∧
    (¬ gmP (gI hm 5 a).toInt (gI hm 5 b).toInt (gI hm 4 b).toInt (gI hm 2 a).toInt (gI hm 2 b).toInt (gI hm 3 a).toInt (gI hm 3 b).toInt v5.toInt v7.toInt v9.toInt ((v : Int) - (gI hm 5 a).toInt) → fX12_two_89 K1 K2 (n + 1) v5 v7 v9 v11 (nI a) (nI b) 0 (nI v) hm = fX12_two_89 K1 K2 n v5 v7 v9 v11 (nI a) (nI b) 0 (nI (v + 1)) hm) := by
  have h15 := (VN_n I.1).1
  obtain ⟨-, ax, ay, a1, a2, a3⟩ := I.2 a ha
  obtain ⟨-, bx, bY, b1, b2, b3⟩ := I.2 b hb
  have tv : (nI v).toInt = v := nI_toInt (by omega)
  have d1 : (nI v - gI hm 5 a).toInt = (v : Int) - (gI hm 5 a).toInt := by rw [fb_subI9 (by omega) (by omega), tv]
  have e16 : (nI v - gI hm 5 a).toInt64.toInt = (v : Int) - (gI hm 5 a).toInt := by rw [(i64_small _).2, d1]
  have e18 : (v5 - (nI v - gI hm 5 a).toInt64).toInt = v5.toInt - ((v : Int) - (gI hm 5 a).toInt) := by rw [Jvm.Kit.i64_sub (by omega) (by omega), e16]
  rw [fX12_two_89, if_pos rfl]
  simp only [inb_n (show a < 15 by omega) (by omega), inb_n (show b < 15 by omega) (by omega), ck_t, nI_clamp (show a < 2 ^ 31 by omega), nI_clamp (show b < 2 ^ 31 by omega), nm_e1, nI_1]
  rw [if_neg (fun z => by have := i32_lt.mp z; omega)]
  generalize hc16 : (nI v - gI hm 5 a).toInt64 = v16 at *
  generalize hc18 : v5 - v16 = v18 at *
  generalize hcc : (v : Int) - (gI hm 5 a).toInt = c at *
  have rc : -1000 ≤ c ∧ c ≤ 1000 := by omega
  have k1 : lg_cmp v16 0 = 0 ↔ c = 0 := by rw [lg_cmp_eq, ← Int64.toInt_inj, e16, z64]
  have k2 : lg_cmp v18 0 = 0 ↔ v5.toInt - c = 0 := by rw [lg_cmp_eq, ← Int64.toInt_inj, e18, z64]
  have eB : ((gI hm 5 b).toInt64 + v18).toInt = (gI hm 5 b).toInt + (v5.toInt - c) := by rw [Jvm.Kit.i64_add (by rw [(i64_small _).2]; omega) (by rw [(i64_small _).2]; omega), (i64_small _).2, e18]
  have k3 : lg_cmp ((gI hm 5 b).toInt64 + v18) 0 < 0 ↔ (gI hm 5 b).toInt + (v5.toInt - c) < 0 := by rw [lg_cmp_lt, Int64.lt_iff_toInt_lt, eB, z64]
  have k4 : lg_cmp ((gI hm 5 b).toInt64 + v18) (gI hm 4 b).toInt64 ≤ 0 ↔ (gI hm 5 b).toInt + (v5.toInt - c) ≤ (gI hm 4 b).toInt := by rw [lg_cmp_le, Int64.le_iff_toInt_le, eB, (i64_small _).2]
  have pr : ∀ (z : Nat) (w : Int64), (z = 2 ∨ z = 3) → (lg_cmp ((gI hm z a).toInt64 * v16 + (gI hm z b).toInt64 * v18) w = 0 ↔ (gI hm z a).toInt * c + (gI hm z b).toInt * (v5.toInt - c) = w.toInt) := by
    intro z w hz
    have rz : (-99 ≤ (gI hm z a).toInt ∧ (gI hm z a).toInt ≤ 99) ∧ (-99 ≤ (gI hm z b).toInt ∧ (gI hm z b).toInt ≤ 99) := by
      rcases hz with rfl | rfl
      · exact ⟨ax, bx⟩
      · exact ⟨by omega, by omega⟩
    have p1 : ((gI hm z a).toInt * c).natAbs ≤ 99 * 1000 := by
      rw [Int.natAbs_mul]
      exact Nat.mul_le_mul (by omega) (by omega)
    have p2 : ((gI hm z b).toInt * (v5.toInt - c)).natAbs ≤ 99 * 8589935592 := by
      rw [Int.natAbs_mul]
      exact Nat.mul_le_mul (by omega) (by omega)
    have m1 : ((gI hm z a).toInt64 * v16).toInt = (gI hm z a).toInt * c := by rw [Jvm.Kit.i64_mul (by rw [(i64_small _).2, e16]; omega) (by rw [(i64_small _).2, e16]; omega), (i64_small _).2, e16]
    have m2 : ((gI hm z b).toInt64 * v18).toInt = (gI hm z b).toInt * (v5.toInt - c) := by rw [Jvm.Kit.i64_mul (by rw [(i64_small _).2, e18]; omega) (by rw [(i64_small _).2, e18]; omega), (i64_small _).2, e18]
    rw [lg_cmp_eq, ← Int64.toInt_inj, Jvm.Kit.i64_add (by rw [m1, m2]; omega) (by rw [m1, m2]; omega), m1, m2]
  simp only [k1, k2, k3, k4, pr 2 v7 (Or.inl rfl), pr 3 v9 (Or.inr rfl)]
  unfold gmP
  refine ⟨fun g => ?_, fun g => ?_⟩
  · obtain ⟨g1, g2, g3, g4, g5, g6⟩ := g
    rw [if_neg g1, if_neg g2, if_neg (by omega), if_pos g4, if_pos g5, if_pos g6]
  · by_cases q1 : c = 0
    · rw [if_pos q1]
    · rw [if_neg q1]
      by_cases q2 : v5.toInt - c = 0
      · rw [if_pos q2]
      · rw [if_neg q2]
        by_cases q3 : (gI hm 5 b).toInt + (v5.toInt - c) < 0
        · rw [if_pos q3]
        · rw [if_neg q3]
          by_cases q4 : (gI hm 5 b).toInt + (v5.toInt - c) ≤ (gI hm 4 b).toInt
          · rw [if_pos q4]
            by_cases q5 : (gI hm 2 a).toInt * c + (gI hm 2 b).toInt * (v5.toInt - c) = v7.toInt
            · rw [if_pos q5]
              by_cases q6 : (gI hm 3 a).toInt * c + (gI hm 3 b).toInt * (v5.toInt - c) = v9.toInt
              · exact absurd ⟨q1, q2, by omega, q4, q5, q6⟩ g
              · rw [if_neg q6]
            · rw [if_neg q5]
          · rw [if_neg q4]
theorem two_endM {a b : Nat} (ha : a < 15) (v5 v7 v9 : Int64) (K1 : Int64 → Int64 → Int64 → Int32 → Int32 → HS → Option (Int32 × HS)) (K2 : Int64 → Int64 → Int64 → Int32 → Int32 → Int32 → HS → Option (Int32 × HS)) (n : Nat) (v11 v14 v15 : Int32) (hv : v14 = 0 → gI hm 4 a < v15) : fX12_two_89 K1 K2 (n + 1) v5 v7 v9 v11 (nI a) (nI b) v14 v15 hm = K2 v5 v7 v9 (v11 + (if v14 = 0 then 0 else 1)) (nI a) (nI (b + 1)) hm := by
  rw [fX12_two_89, inb_n ha (by omega), ck_t, nI_clamp (by omega)]
  unfold fX12_two_294 fX12_two_306
  simp only [nm_e1, nI_1]
  by_cases c : v14 = 0
  · rw [if_pos (hv c), if_pos c, if_pos c]
  · rw [if_neg c, if_neg c, if_neg c, ite_self]
/-- the model's search for one pair -/
theorem two_noM (I : IL hm) {a b : Nat} (ha : a < nLd hm) (hb : b < nLd hm) {v5 v7 v9 : Int64} (r5 : -8589934592 ≤ v5.toInt ∧ v5.toInt ≤ 8589934592) (K1 : Int64 → Int64 → Int64 → Int32 → Int32 → HS → Option (Int32 × HS)) (K2 : Int64 → Int64 → Int64 → Int32 → Int32 → Int32 → HS → Option (Int32 × HS)) (v11 : Int32) : ∀ (k v : Nat), (v : Int) + k = (gI hm 4 a).toInt + 1 → (∀ u : Nat, v ≤ u → (u : Int) ≤ (gI hm 4 a).toInt → ¬ gmP (gI hm 5 a).toInt (gI hm 5 b).toInt (gI hm 4 b).toInt (gI hm 2 a).toInt (gI hm 2 b).toInt (gI hm 3 a).toInt (gI hm 3 b).toInt v5.toInt v7.toInt v9.toInt ((u : Int) - (gI hm 5 a).toInt)) → ∀ n, k < n → fX12_two_89 K1 K2 n v5 v7 v9 v11 (nI a) (nI b) 0 (nI v) hm = K2 v5 v7 v9 v11 (nI a) (nI (b + 1)) hm := by
  have h15 := (VN_n I.1).1
  obtain ⟨-, ax, ay, a1, a2, a3⟩ := I.2 a ha
  intro k
  induction k with
  | zero =>
    intro v hv _ n hn
    obtain ⟨n', rfl⟩ := fuel1 hn
    rw [two_endM (by omega) v5 v7 v9 K1 K2 n' v11 0 (nI v) (fun _ => i32_lt.mpr (by rw [nI_toInt (by omega)]; omega)), if_pos rfl, Int32.add_zero]
  | succ k ih =>
    intro v hv hg n hn
    obtain ⟨n', rfl⟩ := fuel1 hn
    rw [(two_stepM I ha hb (by omega) r5 K1 K2 n' v11).2 (hg v (Nat.le_refl v) (by omega))]
    exact ih (v + 1) (by omega) (fun u h1 h2 => hg u (by omega) h2) n' (by omega)
theorem two_skM (I : IL hm) {a b : Nat} (ha : a < nLd hm) (hb : b < nLd hm) {v5 v7 v9 : Int64} (r5 : -8589934592 ≤ v5.toInt ∧ v5.toInt ≤ 8589934592) (K1 : Int64 → Int64 → Int64 → Int32 → Int32 → HS → Option (Int32 × HS)) (K2 : Int64 → Int64 → Int64 → Int32 → Int32 → Int32 → HS → Option (Int32 × HS)) (v11 : Int32) : ∀ (k v n : Nat), (v : Int) + k ≤ (gI hm 4 a).toInt + 1 → (∀ u : Nat, v ≤ u → u < v + k → ¬ gmP (gI hm 5 a).toInt (gI hm 5 b).toInt (gI hm 4 b).toInt (gI hm 2 a).toInt (gI hm 2 b).toInt (gI hm 3 a).toInt (gI hm 3 b).toInt v5.toInt v7.toInt v9.toInt ((u : Int) - (gI hm 5 a).toInt)) → fX12_two_89 K1 K2 (n + k) v5 v7 v9 v11 (nI a) (nI b) 0 (nI v) hm = fX12_two_89 K1 K2 n v5 v7 v9 v11 (nI a) (nI b) 0 (nI (v + k)) hm := by
  intro k
  induction k with
  | zero => intro v n _ _; rfl
  | succ k ih =>
    intro v n hv hg
    rw [show n + (k + 1) = (n + k) + 1 by omega, (two_stepM I ha hb (by omega) r5 K1 K2 (n + k) v11).2 (hg v (Nat.le_refl v) (by omega)), ih (v + 1) n (by omega) (fun u h1 h2 => hg u (by omega) (by omega)), show v + 1 + k = v + (k + 1) by omega]
/-- a row of four, behind an empty one -/
theorem tell4 (H : RR hc hm) (e0 : gI hm 0 21 = nI 0) (u v w x : Int32) : ∃ hc2 hc3 hc4 hc5 hm2 hm3 hm4 hm5, fX6_add u hc = some hc2 ∧ fX6_add v hc2 = some hc3 ∧ fX6_add w hc3 = some hc4 ∧ fX6_add x hc4 = some hc5 ∧ fX12_tell u hm = some hm2 ∧ fX12_tell v hm2 = some hm3 ∧ fX12_tell w hm3 = some hm4 ∧ fX12_tell x hm4 = some hm5 ∧ RR hc5 hm5 ∧ gI hm5 0 21 = nI 4 ∧ (∀ b j, ¬ b = 4 → ¬ b = 35 → gI hc2 b j = gI hc b j ∧ gI hc3 b j = gI hc b j ∧ gI hc4 b j = gI hc b j ∧ gI hc5 b j = gI hc b j) ∧ (∀ b j, ¬ b = 10 → ¬ (b = 0 ∧ j = 21) → gI hm2 b j = gI hm b j ∧ gI hm3 b j = gI hm b j ∧ gI hm4 b j = gI hm b j ∧ gI hm5 b j = gI hm b j) := by
  obtain ⟨b1, b2, b3, b4⟩ := row1 H e0 (by omega) u
  obtain ⟨d1, d2, d3, d4⟩ := row1 b3 b4 (by omega) v
  obtain ⟨e1, e2, e3, e4⟩ := row1 d3 d4 (by omega) w
  obtain ⟨f1, f2, f3, f4⟩ := row1 e3 e4 (by omega) x
  refine ⟨_, _, _, _, _, _, _, _, b1, d1, e1, f1, b2, d2, e2, f2, f3, f4, fun b j h1 h2 => ⟨?_, ?_, ?_, ?_⟩, fun b j h1 h2 => ⟨?_, ?_, ?_, ?_⟩⟩
  all_goals simp only [gI_pI, h1, h2, false_and, if_false]
theorem op_two (H : RR hc hm) (p1 p2 p3 p4 : Int32) : OK2 (fX11_two p1 p2 p3 p4 hc) (fX12_two p1 p2 p3 p4 hm) := by
  have H2 := RR_thrown 0 H
  simp only [fX11_two, fX12_two, nm_e1, f_isDepthC, f_isDepthM, bd_s, if10s]
  refine OK2_if (fun c1 => ?_) (fun _ => OK2_c H2)
  rw [e_heavyC (RR_VNc H) (RR_VYc H), bd_s, RR_Hc H, e_momC (RR_VNc H), bd_s, RR_Mc H, e_listC (RR_VNc H), bd_s, RR_Tc H, e_heavyM (RR_VN H2) (RR_VY H2), bd_s, e_momM0 (RR_VN H2), bd_s, e_momM1 (RR_VN H2) (by decide), bd_s, show Hm (pI hm 0 22 0) p1 = Hm hm p1 from rfl, show Mm (pI hm 0 22 0) = Mm hm from rfl, show Tm (pI hm 0 22 0) = Tm hm from rfl]
  obtain ⟨r1, r2, r3⟩ := row0 H2
  rw [r1, bv_s]
  have rng : ∀ x y : Int32, -8589934592 ≤ (x.toInt64 - y.toInt64).toInt ∧ (x.toInt64 - y.toInt64).toInt ≤ 8589934592 := fun x y => by
    have q1 := fb_rng9 x
    have q2 := fb_rng9 y
    rw [Jvm.Kit.i64_sub (by rw [(i64_small _).2, (i64_small _).2]; omega) (by rw [(i64_small _).2, (i64_small _).2]; omega), (i64_small _).2, (i64_small _).2]
    omega
  have q5 := rng p2 (Hm hm p1)
  have q7 := rng p3 (Mm hm)
  have q9 := rng p4 (Tm hm)
  generalize p2.toInt64 - (Hm hm p1).toInt64 = v5 at *
  generalize p3.toInt64 - (Mm hm).toInt64 = v7 at *
  generalize p4.toInt64 - (Tm hm).toInt64 = v9 at *
  -- one pair on both sides
  have pair : ∀ (a b cnt : Nat) (hc hm : HS), RR hc hm → a < nLd hm → b < nLd hm → cnt < 1000 → ((cnt = 0 ∧ gI hm 0 21 = nI 0) ∨ (0 < cnt ∧ gI hm 0 21 = nI 4)) → ∀ (KC K1 : Int64 → Int64 → Int64 → Int32 → Int32 → HS → Option (Int32 × HS)) (K2 : Int64 → Int64 → Int64 → Int32 → Int32 → Int32 → HS → Option (Int32 × HS)) (n : Nat), ∃ hc' hm' cnt', fX11_two_81 KC (n + 1) v5 v7 v9 (nI cnt) (nI a) (nI b) hc = fX11_two_81 KC n v5 v7 v9 (nI cnt') (nI a) (nI (b + 1)) hc' ∧ fX12_two_89 K1 K2 FU v5 v7 v9 (nI cnt) (nI a) (nI b) 0 0 hm = K2 v5 v7 v9 (nI cnt') (nI a) (nI (b + 1)) hm' ∧ RR hc' hm' ∧ nLd hm' = nLd hm ∧ cnt' ≤ cnt + 1 ∧ ((cnt' = 0 ∧ gI hm' 0 21 = nI 0) ∨ (0 < cnt' ∧ gI hm' 0 21 = nI 4)) := by
    intro a b cnt hc hm H ha hb hcnt hrow KC K1 K2 n
    have h15 := RR_15 H
    have I := H.2.1.1
    obtain ⟨hc', R, e1, e2, e3, e4⟩ := pair_C H ha hb q5 q7 q9
    have H' := RR_L e2 H
    obtain ⟨-, ax, ay, a1, a2, a3⟩ := I.2 a ha
    obtain ⟨-, bx, bY, b1, b2, b3⟩ := I.2 b hb
    rw [e1 KC n (nI cnt)]
    by_cases z : R.toInt = 0
    · rw [if_pos ((lg_cmp_eq _ _).mpr (Int64.toInt_inj.mp z))]
      have nn := two_noM I ha hb (v7 := v7) (v9 := v9) q5 K1 K2 (nI cnt) ((gI hm 4 a).toInt.toNat + 1) 0 (by omega) (fun u _ hu => e3 z _ (by omega) (by omega)) FU (FU_gt (by omega))
      rw [nI_0] at nn
      exact ⟨hc', hm, cnt, rfl, nn, H', rfl, by omega, hrow⟩
    · rw [if_neg (fun y => z (by rw [(lg_cmp_eq _ _).mp y]; rfl))]
      obtain ⟨⟨f1, f2⟩, f3, f4⟩ := e4 z
      obtain ⟨w, hw⟩ : ∃ w : Nat, (w : Int) = R.toInt + (gI hm 5 a).toInt := ⟨(R.toInt + (gI hm 5 a).toInt).toNat, by omega⟩
      obtain ⟨f, hf⟩ : ∃ f, FU = (f + 2) + w := ⟨FU - w - 2, by rw [FU_eq]; omega⟩
      have sk := two_skM I ha hb (v7 := v7) (v9 := v9) q5 K1 K2 (nI cnt) w 0 (f + 2) (by omega) (fun u _ hu => f4 _ (by omega) (by omega))
      rw [nI_0, ← hf, Nat.zero_add] at sk
      have wg : (w : Int) - (gI hm 5 a).toInt = R.toInt := by omega
      have st := (two_stepM I ha hb (v := w) (v7 := v7) (v9 := v9) (by omega) q5 K1 K2 (f + 1) (nI cnt)).1 (by rw [wg]; exact f3)
      rw [sk, st]
      have en : ∀ h2 : HS, fX12_two_89 K1 K2 (f + 1) v5 v7 v9 (nI cnt) (nI a) (nI b) 1 (nI (w + 1)) h2 = K2 v5 v7 v9 (nI (cnt + 1)) (nI a) (nI (b + 1)) h2 := fun h2 => by
        rw [two_endM (hm := h2) (by omega) v5 v7 v9 K1 K2 f (nI cnt) 1 (nI (w + 1)) (fun y => absurd y (by decide)), if_neg (by decide), nI_1]
      unfold fX11_tellFirstPair
      have row : gI hc' 4 1 = gI hm 0 21 := H'.1.2.2.2.1.1
      rcases hrow with ⟨hz, hr⟩ | ⟨hz, hr⟩
      · -- the first pair: it is told
        have t15 : (nI w).toInt = (w : Int) := nI_toInt (by omega)
        have rR : R.toInt32.toInt = R.toInt := Jvm.Kit.i32_of_i64 (by omega) (by omega)
        have x1 : gI hm 5 a + R.toInt32 = nI w := by
          apply Int32.toInt_inj.mp
          rw [fb_addI9 (by omega) (by omega), rR, t15]
          omega
        obtain ⟨g1, g2, g3, g4, g5, g6⟩ := f3
        have e5R : (v5 - R).toInt = v5.toInt - R.toInt := Jvm.Kit.i64_sub (by omega) (by omega)
        have e5R2 : (v5 - R).toInt32.toInt = v5.toInt - R.toInt := by rw [Jvm.Kit.i32_of_i64 (by omega) (by omega), e5R]
        have eD : (nI w - gI hm 5 a).toInt64 = R := by
          apply Int64.toInt_inj.mp
          rw [(i64_small _).2, fb_subI9 (by omega) (by omega), t15]
          omega
        have eS : ((gI hm 5 b).toInt64 + (v5 - R)).toInt = (gI hm 5 b).toInt + (v5.toInt - R.toInt) := by
          rw [Jvm.Kit.i64_add (by rw [(i64_small _).2]; omega) (by rw [(i64_small _).2]; omega), (i64_small _).2, e5R]
        have x2 : gI hm 5 b + (v5 - R).toInt32 = ((gI hm 5 b).toInt64 + (v5 - R)).toInt32 := by
          apply Int32.toInt_inj.mp
          rw [fb_addI9 (by omega) (by omega), e5R2, Jvm.Kit.i32_of_i64 (by omega) (by omega), eS]
        obtain ⟨hc2, hc3, hc4, hc5, hm2, hm3, hm4, hm5, t1, t2, t3, t4, t5, t6, t7, t8, t9, t10, t11, t12⟩ := tell4 H' hr (nI a) (nI b) (nI w) (((gI hm 5 b).toInt64 + (v5 - R)).toInt32)
        have l6 := H'.1.1.2.2.2.2.2
        rw [row, hr, nI_0, if_pos (by decide), hz, nI_0, if_pos (by decide), t1, bv_s, t2, bv_s]
        simp only [inb_n (show a < 15 by omega) (by omega), inb_n (show b < 15 by omega) (by omega), ck_t, nI_clamp (show a < 2 ^ 31 by omega), nI_clamp (show b < 2 ^ 31 by omega)]
        rw [(t11 30 a (by decide) (by decide)).2.1, l6 a, x1, t3, bv_s, (t11 30 b (by decide) (by decide)).2.2.1, l6 b, x2, t4, bv_s, bv_s, t5, bv_s, t6, bv_s, t7, bv_s, (t12 5 b (by decide) (by omega)).2.2.1, eD, t8, bv_s]
        have en0 := en hm5
        rw [hz, nI_0] at en0
        rw [en0]
        refine ⟨hc5, hm5, 1, by rw [show (0 : Int32) + 1 = nI 1 by decide], rfl, t9, ?_, by omega, Or.inr ⟨by omega, t10⟩⟩
        show (gI hm5 0 0).toNatClampNeg = (gI hm 0 0).toNatClampNeg
        rw [(t12 0 0 (by decide) (by decide)).2.2.2]
      · rw [row, hr, if_neg (by decide), if_neg (nI_nle hz (by omega)), bv_s, en hm, nI_1]
        exact ⟨hc', hm, cnt + 1, rfl, rfl, H', rfl, by omega, Or.inr ⟨by omega, hr⟩⟩
  -- the second ones
  have inner : ∀ (k b a cnt : Nat) (hc hm : HS), RR hc hm → a < nLd hm → b + k = nLd hm → cnt + k < 1000 → ((cnt = 0 ∧ gI hm 0 21 = nI 0) ∨ (0 < cnt ∧ gI hm 0 21 = nI 4)) → ∀ (KC K1 : Int64 → Int64 → Int64 → Int32 → Int32 → HS → Option (Int32 × HS)) (n m : Nat), k < n → k < m → ∃ hc' hm' cnt', fX11_two_81 KC n v5 v7 v9 (nI cnt) (nI a) (nI b) hc = KC v5 v7 v9 (nI cnt') (nI (a + 1)) hc' ∧ fX12_two_74 K1 m v5 v7 v9 (nI cnt) (nI a) (nI b) hm = K1 v5 v7 v9 (nI cnt') (nI (a + 1)) hm' ∧ RR hc' hm' ∧ nLd hm' = nLd hm ∧ cnt' ≤ cnt + k ∧ ((cnt' = 0 ∧ gI hm' 0 21 = nI 0) ∨ (0 < cnt' ∧ gI hm' 0 21 = nI 4)) := by
    intro k
    induction k with
    | zero =>
      intro b a cnt hc hm H ha hb _ hrow KC K1 n m hn hm1
      have h15 := RR_15 H
      obtain ⟨n', rfl⟩ := fuel1 hn
      obtain ⟨m', rfl⟩ := fuel1 hm1
      refine ⟨hc, hm, cnt, ?_, ?_, H, rfl, by omega, hrow⟩
      · rw [fX11_two_81, RR_eC H, if_pos (nI_le (by omega) (by omega)), nm_e1, nI_1]
      · rw [fX12_two_74, RR_eM H, if_pos (nI_le (by omega) (by omega)), nm_e1, nI_1]
    | succ k ih =>
      intro b a cnt hc hm H ha hb hcnt hrow KC K1 n m hn hm1
      have h15 := RR_15 H
      obtain ⟨n', rfl⟩ := fuel1 hn
      obtain ⟨m', rfl⟩ := fuel1 hm1
      obtain ⟨hc1, hm1', cnt1, e1, e2, e3, e4, e5, e6⟩ := pair a b cnt hc hm H ha (by omega) (by omega) hrow KC K1 (fX12_two_74 K1 m') n'
      obtain ⟨hc2, hm2, cnt2, f1, f2, f3, f4, f5, f6⟩ := ih (b + 1) a cnt1 hc1 hm1' e3 (by omega) (by omega) (by omega) e6 KC K1 n' m' (by omega) (by omega)
      refine ⟨hc2, hm2, cnt2, ?_, ?_, f3, by omega, by omega, f6⟩
      · rw [e1, f1]
      · rw [fX12_two_74, RR_eM H, if_neg (nI_ge (by omega) (by omega)), e2, f2]
  have outer : ∀ (k a cnt : Nat) (hc hm : HS), RR hc hm → a + k = nLd hm → cnt + 15 * k < 1000 → ((cnt = 0 ∧ gI hm 0 21 = nI 0) ∨ (0 < cnt ∧ gI hm 0 21 = nI 4)) → ∀ n m, k < n → k < m → OK2 (fX11_two_63 n v5 v7 v9 (nI cnt) (nI a) hc) (fX12_two_59 m v5 v7 v9 (nI cnt) (nI a) hm) := by
    intro k
    induction k with
    | zero =>
      intro a cnt hc hm H ha _ _ n m hn hm1
      have h15 := RR_15 H
      obtain ⟨n', rfl⟩ := fuel1 hn
      obtain ⟨m', rfl⟩ := fuel1 hm1
      rw [fX11_two_63, fX12_two_59, RR_eC H, RR_eM H, if_pos (nI_le (by omega) (by omega)), if_pos (nI_le (by omega) (by omega))]
      exact OK2_c H
    | succ k ih =>
      intro a cnt hc hm H ha hcnt hrow n m hn hm1
      have h15 := RR_15 H
      obtain ⟨n', rfl⟩ := fuel1 hn
      obtain ⟨m', rfl⟩ := fuel1 hm1
      obtain ⟨hc2, hm2, cnt2, f1, f2, f3, f4, f5, f6⟩ := inner k (a + 1) a cnt hc hm H (by omega) (by omega) (by omega) hrow (fX11_two_63 n') (fX12_two_59 m') FU FU (FU_gt (by omega)) (FU_gt (by omega))
      rw [fX11_two_63, fX12_two_59, RR_eC H, RR_eM H, if_neg (nI_ge (by omega) (by omega)), if_neg (nI_ge (by omega) (by omega)), nm_e1, nm_e1, nI_1, f1, f2]
      exact ih (a + 1) cnt2 hc2 hm2 f3 (by omega) (by omega) f6 n' m' (by omega) (by omega)
  have h15 := RR_15 r2
  have k0 := outer (nLd (pI (pI hm 0 22 0) 0 21 0)) 0 0 _ _ r2 (Nat.zero_add _) (by omega) (Or.inl ⟨rfl, r3⟩) FU FU (FU_gt (by omega)) (FU_gt (by omega))
  rw [nI_0] at k0
  exact k0
end TWP
