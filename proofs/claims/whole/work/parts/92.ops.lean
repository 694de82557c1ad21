section SHI
variable {hc hm : HS}
def SR (hc : HS) (v2 v3 v4 : Int32) : Prop := (v2 = -1 ∧ gI hc 9 7 = -1) ∨ (¬ v2 = -1 ∧ gI hc 9 5 = v2 ∧ gI hc 9 6 = v3 ∧ ((v4 = 1000 ∧ gI hc 9 7 = 401) ∨ (∃ t : Nat, t ≤ 400 ∧ v4 = nI t ∧ gI hc 9 7 = nI t)))
theorem RR_9 {hc' : HS} (s : ∀ b j, ¬ b = 9 → gI hc' b j = gI hc b j) (H : RR hc hm) : RR hc' hm := RR_cg (fun b j q => s b j (by rintro rfl; cases q)) cg_rf H
theorem op_shift (H : RR hc hm) (p1 : Int32) : OK2 (fX11_shift p1 hc) (fX12_shift p1 hm) := by
  have H2 := RR_thrown 0 H
  simp only [fX11_shift, fX12_shift, nm_e1, f_isDepthC, f_isDepthM, bd_s, if10s]
  refine OK2_if (fun hd => ?_) (fun _ => OK2_c H2)
  generalize pI hm 0 22 0 = h0 at *
  have k401 : (401 : Int32) = nI 401 := by decide +kernel
  have k1000 : (1000 : Int32) = nI 1000 := by decide +kernel
  have k400 : (400 : Int32) = nI 400 := by decide +kernel
  -- one pair on both sides
  have pair : ∀ (a b : Nat) (hc h : HS) (v2 v3 v4 : Int32), RR hc h → a < nLd h → b < nLd h → SR hc v2 v3 v4 → ∀ (KC : Int32 → Int32 → HS → Option (Int32 × HS)) (KM : Int32 → Int32 → Int32 → Int32 → Int32 → HS → Option (Int32 × HS)) (n m : Nat), ∃ hc' h' w2 w3 w4, fX8_findShift_20 KC (n + 1) p1 (nI a) (nI b) hc = fX8_findShift_20 KC n p1 (nI a) (nI (b + 1)) hc' ∧ fX12_shift_36 KM (m + 1) p1 v2 v3 v4 (nI a) (nI b) h = fX12_shift_36 KM m p1 w2 w3 w4 (nI a) (nI (b + 1)) h' ∧ RR hc' h' ∧ nLd h' = nLd h ∧ SR hc' w2 w3 w4 := by
    intro a b hc h v2 v3 v4 H ha hb S KC KM n m
    have h15 := RR_15 H
    have l6 := H.1.1.2.2.2.2.2
    have l5 := H.1.1.2.2.2.2.1
    have d1 : ∀ x k : Int32, Decidable (isK h x k) := fun _ _ => Classical.propDecidable _
    have ik : ∀ (x : Nat) (k : Int32), x < nLd h → (isK h (nI x) k ↔ gI h 1 x = k) := fun x k hx => by
      constructor
      · rintro ⟨y, hy, e, hk⟩
        have := (nI_eq (by omega) (by omega)).mp e
        subst this
        exact hk
      · intro hk
        exact ⟨x, hx, rfl, hk⟩
    obtain ⟨-, -, -, x1, x2, x3⟩ := H.2.1.1.2 a ha
    obtain ⟨-, -, -, y1, y2, y3⟩ := H.2.1.1.2 b hb
    have rm : (gI h 4 b - gI h 5 b).toInt = (gI h 4 b).toInt - (gI h 5 b).toInt := fb_subI9 (by omega) (by omega)
    rw [fX8_findShift_20, fX12_shift_36, RR_eC H, RR_eM H, if_neg (nI_ge hb (by omega)), if_neg (nI_ge hb (by omega))]
    simp only [nm_e1, nI_1]
    by_cases cab : nI a = nI b
    · rw [if_pos cab, if_pos cab]
      exact ⟨hc, h, v2, v3, v4, rfl, rfl, H, rfl, S⟩
    · have hab : ¬ a = b := fun z => cab (by rw [z])
      rw [if_neg cab, if_neg cab]
      have roomC : fX4_room (nI b) hc = some (gI h 4 b - gI h 5 b, hc) := by
        unfold fX4_room
        rw [f_thereC (by omega) (RR_eC H), bd_s, if10s, if_pos (show ∃ a, a < nLd h ∧ nI b = nI a from ⟨b, hb, rfl⟩)]
        simp only [inb_n (show b < 15 by omega) (by omega), ck_t, nI_clamp (show b < 2 ^ 31 by omega)]
        rw [l5 b, l6 b]
      have roomM : fX12_roomOf (nI b) h = some (gI h 4 b - gI h 5 b, h) := by
        unfold fX12_roomOf
        simp only [inb_n (show b < 15 by omega) (by omega), ck_t, nI_clamp (show b < 2 ^ 31 by omega)]
      unfold fX8_canShift
      simp only [e_isA H _ _ (d1 _ _), bd_s, if10s, inb_n (show a < 15 by omega) (by omega), inb_n (show b < 15 by omega) (by omega), ck_t, nI_clamp (show a < 2 ^ 31 by omega), nI_clamp (show b < 2 ^ 31 by omega), l6, roomC, roomM, ik a 1 ha, ik b 1 hb]
      by_cases c1 : gI h 1 a = 1
      · rw [if_pos c1, if_pos c1]
        by_cases c2 : gI h 1 b = 1
        · rw [if_pos c2, if_pos c2]
          by_cases c3 : gI h 5 a = 0
          · rw [if_pos c3, if_pos (by rw [c3]; decide), bd_s, if_pos rfl]
            exact ⟨hc, h, v2, v3, v4, rfl, rfl, H, rfl, S⟩
          · have c3' : ¬ gI h 5 a ≤ 0 := fun z => c3 (Int32.toInt_inj.mp (by have := i32_le.mp z; rw [i32_z] at this ⊢; omega))
            rw [if_neg c3, if_neg c3']
            by_cases c4 : gI h 5 a ≤ gI h 4 b - gI h 5 b
            · have c4' := i32_le.mp c4
              rw [if_pos c4, if_neg (Int32.not_lt.mpr c4), bd_s, if_neg (by decide)]
              -- the store goes over
              obtain ⟨h28, p1', p2, p3, p4⟩ := e_push (h := h) (q := 0) (by omega) (by rw [nI_0]; exact H.2.2)
              have g28 : ∀ j, gI h28 5 j = gI h 5 j := fun j => p3 5 j (by decide) (by omega)
              have eab : (gI h 5 b + gI h 5 a).toInt = (gI h 5 b).toInt + (gI h 5 a).toInt := fb_addI9 (by omega) (by omega)
              obtain ⟨h33, e33⟩ : ∃ x, x = pI (pI h28 5 b (gI h28 5 b + gI h28 5 a)) 5 a 0 := ⟨_, rfl⟩
              have M33 : ∀ x j, gI h33 x j = if x = 5 ∧ j = a then 0 else if x = 5 ∧ j = b then gI h 5 b + gI h 5 a else gI h28 x j := fun x j => by rw [e33, gI_pI, gI_pI, g28, g28]
              obtain ⟨hc6, e6⟩ : ∃ x, x = pI (pI hc 30 a 0) 30 b (gI (pI hc 30 a 0) 30 b + gI h 5 a) := ⟨_, rfl⟩
              have hb6 : gI (pI hc 30 a 0) 30 b = gI h 5 b := by rw [gI_pI, if_neg (fun z => hab z.2.symm)]; exact l6 b
              have C6 : ∀ x j, gI hc6 x j = if x = 30 ∧ j = b then gI h 5 b + gI h 5 a else if x = 30 ∧ j = a then 0 else gI hc x j := fun x j => by
                rw [e6, hb6, gI_pI, gI_pI]
              have H6 : RR hc6 (pI h33 0 24 0) := by
                refine RR_has (hc := hc) (hm := h) (fun x j q => ?_) (fun x j q => ?_) (fun k => ?_) (fun i hi => ?_) H
                · have n30 : ¬ x = 30 := by rintro rfl; simp [kcH] at q
                  rw [C6, if_neg (fun z => n30 z.1), if_neg (fun z => n30 z.1)]
                · have n5 : ¬ x = 5 := by rintro rfl; simp [kmH] at q
                  have n11 : ¬ x = 11 := by rintro rfl; simp [kmH, kmA] at q
                  by_cases z : x = 0 ∧ j = 24
                  · rw [gI_pI, if_pos z, z.1, z.2, H.2.2]
                  · rw [gI_pI, if_neg z, M33, if_neg (fun y => n5 y.1), if_neg (fun y => n5 y.1), p3 x j n11 z]
                · have e2 : gI (pI h33 0 24 0) 5 k = if 5 = 5 ∧ k = a then 0 else if 5 = 5 ∧ k = b then gI h 5 b + gI h 5 a else gI h 5 k := by rw [gI_pI, if_neg (by omega), M33, g28]
                  rw [C6, e2]
                  by_cases z1 : k = b
                  · rw [if_pos ⟨rfl, z1⟩, if_neg (fun y => hab (y.2.symm.trans z1)), if_pos ⟨rfl, z1⟩]
                  · rw [if_neg (fun y => z1 y.2)]
                    by_cases z2 : k = a
                    · rw [if_pos ⟨rfl, z2⟩, if_pos ⟨rfl, z2⟩]
                    · rw [if_neg (fun y => z2 y.2), if_neg (fun y => z2 y.2), if_neg (fun y => z1 y.2)]
                      exact l6 k
                · obtain ⟨-, -, -, u1, u2, u3⟩ := H.2.1.1.2 i hi
                  rw [gI_pI, if_neg (by omega), M33, g28]
                  by_cases z2 : i = a
                  · rw [if_pos ⟨rfl, z2⟩, i32_z]; omega
                  · rw [if_neg (fun y => z2 y.2)]
                    by_cases z1 : i = b
                    · rw [if_pos ⟨rfl, z1⟩, z1]; omega
                    · rw [if_neg (fun y => z1 y.2)]; exact ⟨u1, u2⟩
              have e3324 : gI h33 0 24 = nI 1 := by rw [M33, if_neg (by omega), if_neg (by omega)]; exact p2
              obtain ⟨r, hc8, h35, t1, t2, t3, t4, t5, t6, t7, t8, t9, t10⟩ := las_both (q := 1) (by omega) e3324 H6 hd
              obtain ⟨h37, k1, k2, k3, k4⟩ := e_pop (h := h35) (q := 0) (by omega) t5
              have M37 : ∀ j, gI h37 5 j = if j < 15 then gI h 5 j else gI h35 5 j := fun j => by
                rw [k4 j]
                by_cases y : j < 15
                · rw [if_pos y, if_pos y, t10 _ (by omega), M33, if_neg (by omega), if_neg (by omega), p4, if_pos (by omega)]
                  congr 1
                  omega
                · rw [if_neg y, if_neg y]
              obtain ⟨hc13, e13⟩ : ∃ x, x = pI (pI hc8 30 a (gI h 5 a)) 30 b (gI (pI hc8 30 a (gI h 5 a)) 30 b - gI h 5 a) := ⟨_, rfl⟩
              have b8 : gI (pI hc8 30 a (gI h 5 a)) 30 b = gI h 5 b + gI h 5 a := by
                rw [gI_pI, if_neg (fun z => hab z.2.symm), t6 b (by omega), C6, if_pos ⟨rfl, rfl⟩]
              have C13 : ∀ j, gI hc13 30 j = if j < 15 then gI h 5 j else gI h35 5 j := fun j => by
                rw [e13, gI_pI]
                by_cases z1 : j = b
                · rw [if_pos ⟨rfl, z1⟩, b8, z1, if_pos (by omega)]
                  grind
                · rw [if_neg (fun y => z1 y.2), gI_pI]
                  by_cases z2 : j = a
                  · rw [if_pos ⟨rfl, z2⟩, z2, if_pos (by omega)]
                  · rw [if_neg (fun y => z2 y.2)]
                    by_cases y : j < 15
                    · rw [if_pos y, t6 j y, C6, if_neg (fun q => z1 q.2), if_neg (fun q => z2 q.2)]
                      exact l6 j
                    · rw [if_neg y, t4.1.1.2.2.2.2.2 j, gI_pI, if_neg (by omega)]
              have Cx : ∀ x j, ¬ x = 30 → ¬ x = 31 → gI hc13 x j = gI hc x j := fun x j z1 z2 => by
                rw [e13, gI_pI, if_neg (fun y => z1 y.1), gI_pI, if_neg (fun y => z1 y.1), t8 x j z1 z2, C6, if_neg (fun y => z1 y.1), if_neg (fun y => z1 y.1)]
              have Mx : ∀ x j, ¬ x = 5 → ¬ x = 11 → ¬ x = 21 → ¬ (x = 0 ∧ (j = 45 ∨ j = 46 ∨ j = 47)) → gI h37 x j = gI h x j := fun x j z1 z2 z3 z4 => by
                by_cases z : x = 0 ∧ j = 24
                · rw [z.1, z.2, k2, nI_0, H.2.2]
                · rw [k3 x j z1 z, t9 x j z1 z2 z3 z4, M33, if_neg (fun y => z1 y.1), if_neg (fun y => z1 y.1), p3 x j z2 z]
              have H13 : RR hc13 h37 := by
                refine RR_has (hc := hc) (hm := h) (fun x j q => ?_) (fun x j q => ?_) (fun k => ?_) (fun i hi => ?_) H
                · exact Cx x j (by rintro rfl; simp [kcH] at q) (by rintro rfl; simp [kcH, kcA] at q)
                · exact Mx x j (by rintro rfl; simp [kmH] at q) (by rintro rfl; simp [kmH, kmA] at q) (by rintro rfl; simp [kmH, kmA] at q) (by rintro ⟨rfl, rfl | rfl | rfl⟩ <;> simp [kmH, kmA] at q)
                · rw [C13, M37]
                · obtain ⟨-, -, -, u1, u2, u3⟩ := H.2.1.1.2 i hi
                  rw [M37, if_pos (by omega)]
                  exact ⟨u1, u2⟩
              have eN : nLd h37 = nLd h := by show (gI h37 0 0).toNatClampNeg = (gI h 0 0).toNatClampNeg; rw [Mx 0 0 (by decide) (by decide) (by decide) (by decide)]
              have S13 : SR hc13 v2 v3 v4 := by
                unfold SR at *
                rw [Cx 9 7 (by decide) (by decide), Cx 9 5 (by decide) (by decide), Cx 9 6 (by decide) (by decide)]
                exact S
              -- the class's words
              have cls : fX8_considerShift (nI a) (nI b) p1 hc = fX8_considerShift_82 (nI a) (nI b) (if r = -2 then 401 else r) hc13 := by
                unfold fX8_considerShift
                simp only [inb_n (show a < 15 by omega) (by omega), inb_n (show b < 15 by omega) (by omega), ck_t, nI_clamp (show a < 2 ^ 31 by omega), nI_clamp (show b < 2 ^ 31 by omega), nm_e1, l6]
                rw [← e6, t1, bd_s, ← e13]
                split <;> rfl
              have mdl : ∀ K : Int32 → HS → Option (Int32 × HS), True := fun _ => trivial
              rw [p1', bv_s, cls, ← e33, t2, bd_s, k1, bv_s]
              unfold fX8_considerShift_82 fX12_shift_156 fX12_shift_173
              simp only [nm_e1, nI_1]
              -- better or not
              have nA : ¬ nI a = (-1 : Int32) := fun z => m1_ne (by omega) z.symm
              have tk : ∀ s0 w4 : Int32, ((w4 = 1000 ∧ s0 = 401) ∨ (∃ t : Nat, t ≤ 400 ∧ w4 = nI t ∧ s0 = nI t)) → RR (pI (pI (pI hc13 9 7 s0) 9 5 (nI a)) 9 6 (nI b)) h37 ∧ SR (pI (pI (pI hc13 9 7 s0) 9 5 (nI a)) 9 6 (nI b)) (nI a) (nI b) w4 := by
                intro s0 w4 hw
                refine ⟨RR_9 (fun x j z => by rw [gI_pI, if_neg (fun y => z y.1), gI_pI, if_neg (fun y => z y.1), gI_pI, if_neg (fun y => z y.1)]) H13, Or.inr ⟨nA, ?_, ?_, ?_⟩⟩
                · rw [gI_pI, if_neg (by decide), gI_pI, if_pos ⟨rfl, rfl⟩]
                · rw [gI_pI, if_pos ⟨rfl, rfl⟩]
                · rw [show gI (pI (pI (pI hc13 9 7 s0) 9 5 (nI a)) 9 6 (nI b)) 9 7 = s0 by rw [gI_pI, if_neg (by decide), gI_pI, if_neg (by decide), gI_pI, if_pos ⟨rfl, rfl⟩]]
                  exact hw
              have go : ∀ (s0 w4 : Int32) (t : Nat), ((w4 = 1000 ∧ s0 = 401 ∧ t = 401) ∨ (t ≤ 400 ∧ w4 = nI t ∧ s0 = nI t)) → ∃ hc' h' w2 w3 w4', bv (if s0 ≤ gI hc13 9 7 then some hc13 else some (pI (pI (pI hc13 9 7 s0) 9 5 (nI a)) 9 6 (nI b))) (fun h12 => fX8_findShift_20 KC n p1 (nI a) (nI (b + 1)) h12) = fX8_findShift_20 KC n p1 (nI a) (nI (b + 1)) hc' ∧ (if v2 = -1 then fX12_shift_36 KM m p1 (nI a) (nI b) w4 (nI a) (nI (b + 1)) h37 else if v4 < w4 then fX12_shift_36 KM m p1 (nI a) (nI b) w4 (nI a) (nI (b + 1)) h37 else fX12_shift_36 KM m p1 v2 v3 v4 (nI a) (nI (b + 1)) h37) = fX12_shift_36 KM m p1 w2 w3 w4' (nI a) (nI (b + 1)) h' ∧ RR hc' h' ∧ nLd h' = nLd h ∧ SR hc' w2 w3 w4' := by
                intro s0 w4 t hw
                have s0t : s0 = nI t := by
                  rcases hw with ⟨-, y, z⟩ | ⟨-, -, y⟩
                  · rw [y, z, k401]
                  · exact y
                have t401 : t ≤ 401 := by omega
                obtain ⟨q1, q2⟩ := tk s0 w4 (by
                  rcases hw with ⟨y1, y2, -⟩ | ⟨y1, y2, y3⟩
                  · exact Or.inl ⟨y1, y2⟩
                  · exact Or.inr ⟨t, y1, y2, y3⟩)
                rcases S13 with ⟨z1, z2⟩ | ⟨z1, z2, z3, z4⟩
                · rw [if_pos z1, if_neg (by rw [z2, s0t]; exact fun y => by have := i32_le.mp y; rw [nI_toInt (by omega), show (-1 : Int32).toInt = -1 by decide +kernel] at this; omega), bv_s]
                  exact ⟨_, h37, _, _, _, rfl, rfl, q1, eN, q2⟩
                · rw [if_neg z1]
                  obtain ⟨u, hu, eu, ev⟩ : ∃ u : Nat, u ≤ 401 ∧ gI hc13 9 7 = nI u ∧ (v4 < w4 ↔ u < t) := by
                    rcases z4 with ⟨y1, y2⟩ | ⟨u, y1, y2, y3⟩
                    · refine ⟨401, Nat.le_refl _, by rw [y2, k401], ?_⟩
                      rcases hw with ⟨w1, w2, w3⟩ | ⟨w1, w2, w3⟩
                      · rw [y1, w1, w3]; decide
                      · rw [y1, w2, k1000, nI_ltI (by omega) (by omega)]; omega
                    · refine ⟨u, by omega, y3, ?_⟩
                      rcases hw with ⟨w1, w2, w3⟩ | ⟨w1, w2, w3⟩
                      · rw [y2, w1, w3, k1000, nI_ltI (by omega) (by omega)]; omega
                      · rw [y2, w2, nI_ltI (by omega) (by omega)]
                  by_cases cc : u < t
                  · rw [if_pos (ev.mpr cc), if_neg (by rw [eu, s0t]; exact nI_ge cc (by omega)), bv_s]
                    exact ⟨_, h37, _, _, _, rfl, rfl, q1, eN, q2⟩
                  · rw [if_neg (fun y => cc (ev.mp y)), if_pos (by rw [eu, s0t]; exact nI_le (by omega) (by omega)), bv_s]
                    exact ⟨hc13, h37, v2, v3, v4, rfl, rfl, H13, eN, Or.inr ⟨z1, z2, z3, z4⟩⟩
              rcases t3 with rfl | ⟨t, ht, rfl⟩
              · have n2n : ¬ (0 : Int32) ≤ -2 := by decide
                simp only [if_neg n2n, if_true]
                exact go 401 1000 401 (Or.inl ⟨rfl, rfl, rfl⟩)
              · have nt2 : ¬ nI t = (-2 : Int32) := fun z => by have := congrArg Int32.toInt z; rw [nI_toInt (by omega), show (-2 : Int32).toInt = -2 by decide +kernel] at this; omega
                have pt : (0 : Int32) ≤ nI t := nI_pos' (by omega)
                simp only [if_neg nt2, if_pos pt]
                exact go (nI t) (nI t) t (Or.inr ⟨ht, rfl, rfl⟩)
            · rw [if_neg c4, if_pos (Int32.not_le.mp c4), bd_s, if_pos rfl]
              exact ⟨hc, h, v2, v3, v4, rfl, rfl, H, rfl, S⟩
        · rw [if_neg c2, if_neg c2, bd_s, if_pos rfl]
          exact ⟨hc, h, v2, v3, v4, rfl, rfl, H, rfl, S⟩
      · rw [if_neg c1, if_neg c1, bd_s, if_pos rfl]
        exact ⟨hc, h, v2, v3, v4, rfl, rfl, H, rfl, S⟩
  have inner : ∀ (k b a : Nat) (hc h : HS) (v2 v3 v4 : Int32), RR hc h → a < nLd h → b + k = nLd h → SR hc v2 v3 v4 → ∀ (KC : Int32 → Int32 → HS → Option (Int32 × HS)) (KM : Int32 → Int32 → Int32 → Int32 → Int32 → HS → Option (Int32 × HS)) (n m : Nat), k < n → k < m → ∃ hc' h' w2 w3 w4, fX8_findShift_20 KC n p1 (nI a) (nI b) hc = KC p1 (nI (a + 1)) hc' ∧ fX12_shift_36 KM m p1 v2 v3 v4 (nI a) (nI b) h = KM p1 w2 w3 w4 (nI (a + 1)) h' ∧ RR hc' h' ∧ nLd h' = nLd h ∧ SR hc' w2 w3 w4 := by
    intro k
    induction k with
    | zero =>
      intro b a hc h v2 v3 v4 H ha hb S KC KM n m hn hm1
      have h15 := RR_15 H
      obtain ⟨n', rfl⟩ := fuel1 hn
      obtain ⟨m', rfl⟩ := fuel1 hm1
      refine ⟨hc, h, v2, v3, v4, ?_, ?_, H, rfl, S⟩
      · rw [fX8_findShift_20, RR_eC H, if_pos (nI_le (by omega) (by omega)), nm_e1, nI_1]
      · rw [fX12_shift_36, RR_eM H, if_pos (nI_le (by omega) (by omega)), nm_e1, nI_1]
    | succ k ih =>
      intro b a hc h v2 v3 v4 H ha hb S KC KM n m hn hm1
      obtain ⟨n', rfl⟩ := fuel1 hn
      obtain ⟨m', rfl⟩ := fuel1 hm1
      obtain ⟨hc1, h1, u2, u3, u4, e1, e2, e3, e4, e5⟩ := pair a b hc h v2 v3 v4 H ha (by omega) S KC KM n' m'
      obtain ⟨hc2, h2, w2, w3, w4, f1, f2, f3, f4, f5⟩ := ih (b + 1) a hc1 h1 u2 u3 u4 e3 (by omega) (by omega) e5 KC KM n' m' (by omega) (by omega)
      exact ⟨hc2, h2, w2, w3, w4, by rw [e1, f1], by rw [e2, f2], f3, by omega, f5⟩
  have outer : ∀ (k a : Nat) (hc h : HS) (v2 v3 v4 : Int32), RR hc h → a + k = nLd h → SR hc v2 v3 v4 → ∀ (n m : Nat), k < n → k < m → OK2 (bd (fX8_findShift_7 n p1 (nI a) hc) (fun r5 h4 => if r5 = 0 then some (-2, h4) else bv (fX6_empty h4) (fun h7 => bv (fX6_add (gI h7 9 5) h7) (fun h8 => bv (fX6_add (gI h8 9 6) h8) (fun h9 => if gI h9 9 7 ≤ 400 then some (gI h9 9 7, h9) else some (-1, h9)))))) (fX12_shift_24 m p1 v2 v3 v4 (nI a) h) := by
    intro k
    induction k with
    | zero =>
      intro a hc h v2 v3 v4 H ha S n m hn hm1
      have h15 := RR_15 H
      obtain ⟨n', rfl⟩ := fuel1 hn
      obtain ⟨m', rfl⟩ := fuel1 hm1
      rw [fX8_findShift_7, fX12_shift_24, RR_eC H, RR_eM H, if_pos (nI_le (by omega) (by omega)), if_pos (nI_le (by omega) (by omega))]
      rcases S with ⟨z1, z2⟩ | ⟨z1, z2, z3, z4⟩
      · rw [if_pos z2, if_pos z1, bd_s, if_pos rfl]
        exact OK2_c H
      · have n1 : ¬ gI hc 9 7 = -1 := by
          rcases z4 with ⟨-, y⟩ | ⟨t, y1, -, y3⟩
          · rw [y]; decide
          · rw [y3]; exact fun z => m1_ne (by omega) z.symm
        obtain ⟨hc1, hc2, hc3, hm2, hm3, t1, t2, t3, t4, t5, t6, -, t7, -⟩ := tell2 H v2 v3
        rw [if_neg n1, if_neg z1, bd_s, if_neg (by decide), t1, bv_s, (t7 9 5 (by decide) (by decide)).1, z2, t2, bv_s, (t7 9 6 (by decide) (by decide)).2.1, z3, t3, bv_s, (t7 9 7 (by decide) (by decide)).2.2, nm_e1, t4, bv_s, t5, bv_s]
        rcases z4 with ⟨y1, y2⟩ | ⟨t, y1, y2, y3⟩
        · rw [if_neg (by rw [y2]; decide), if_pos y1]
          exact OK2_c t6
        · rw [if_pos (by rw [y3, k400]; exact nI_le y1 (by omega)), if_neg (fun z => by rw [y2, k1000, nI_eq (by omega) (by omega)] at z; omega), y3, y2]
          exact OK2_c t6
    | succ k ih =>
      intro a hc h v2 v3 v4 H ha S n m hn hm1
      have h15 := RR_15 H
      obtain ⟨n', rfl⟩ := fuel1 hn
      obtain ⟨m', rfl⟩ := fuel1 hm1
      obtain ⟨hc2, h2, w2, w3, w4, f1, f2, f3, f4, f5⟩ := inner (nLd h) 0 a hc h v2 v3 v4 H (by omega) (by omega) S (fX8_findShift_7 n') (fX12_shift_24 m') FU FU (FU_gt (by omega)) (FU_gt (by omega))
      rw [nI_0] at f1 f2
      rw [fX8_findShift_7, fX12_shift_24, RR_eC H, RR_eM H, if_neg (nI_ge (by omega) (by omega)), if_neg (nI_ge (by omega) (by omega)), f1, f2]
      exact ih (a + 1) hc2 h2 w2 w3 w4 f3 (by omega) f5 n' m' (by omega) (by omega)
  unfold fX8_findShift
  rw [nm_e1]
  have HC : RR (pI hc 9 7 (-1)) h0 := RR_9 (fun x j z => by rw [gI_pI, if_neg (fun y => z y.1)]) H2
  have h15 := RR_15 HC
  have k0 := outer (nLd h0) 0 _ h0 (-1) (-1) 0 HC (by omega) (Or.inl ⟨rfl, by rw [gI_pI, if_pos ⟨rfl, rfl⟩]⟩) FU FU (FU_gt (by omega)) (FU_gt (by omega))
  rw [nI_0] at k0
  exact k0
end SHI
