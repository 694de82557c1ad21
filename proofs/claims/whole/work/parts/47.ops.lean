section OPV
variable {hc hm : HS}
theorem f_there5 (H : RR hc hm) (x : Int32) : fX5_there x hc = some (if 0 ≤ x ∧ x ≤ gI hm 0 39 - 1 then 1 else 0, hc) := by
  obtain ⟨q, h1, h2, h3⟩ := H.2.1.2.2.1
  unfold fX5_there
  rw [H.1.2.2.2.2.2.1.1, h2]
  have e := i32_ltle (x := x) (n := q) (by omega)
  by_cases c : x < 0
  · rw [if_pos c, if_neg]
    intro z
    obtain ⟨i, hi, rfl⟩ := e.mp z
    exact nI_pos (by omega) c
  · rw [if_neg c]
    obtain ⟨j, hj, rfl⟩ := nI_of c
    by_cases c2 : q ≤ j
    · rw [if_pos (nI_le c2 hj), if_neg]
      intro z
      obtain ⟨i, hi, h4⟩ := e.mp z
      have := (nI_eq hj (by omega)).mp h4
      omega
    · rw [if_neg (nI_ge (by omega) (by omega)), if_pos (e.mpr ⟨j, by omega, rfl⟩)]
theorem op_run (H : RR hc hm) (p1 p2 : Int32) : OK2 (fX11_run p1 p2 hc) (fX12_run p1 p2 hm) := by
  have H2 := RR_thrown 0 H
  have e39 : gI (pI hm 0 22 0) 0 39 = gI hm 0 39 := by rw [gI_pI, if_neg (by decide)]
  simp only [fX11_run, fX12_run, fX12_run_34, nm_e1, f_there5 H, f_between, f_in, bd_s, if10s, e39]
  refine OK2_if (fun c1 => ?_) (fun _ => OK2_c H2)
  by_cases c0 : p2 = 0
  · rw [if_pos c0]
    by_cases c2 : (-99 : Int32) ≤ p2 ∧ p2 ≤ 99
    · rw [if_pos c2, if_pos c0]; exact OK2_c H2
    · rw [if_neg c2]; exact OK2_c H2
  · rw [if_neg c0]
    refine OK2_if (fun c2 => ?_) (fun _ => OK2_c H2)
    rw [if_neg c0]
    obtain ⟨q, q1, q2, -⟩ := H2.2.1.2.2.1
    obtain ⟨p, hp, rfl, ha, hb, hne, hr⟩ := pump_at H2 q2 (by rw [e39]; exact c1)
    have r := rngI (-99) 99 c2
    have dc : Decidable (canP (pI hm 0 22 0) p p2) := Classical.propDecidable _
    rw [e_can H2 hp ha hb hr r dc, bd_s, if10s]
    obtain ⟨k1, k2⟩ := e_runs H2 hp ha hb hne hr r c0
    by_cases cc : canP (pI hm 0 22 0) p p2
    · rw [if_pos cc]
      obtain ⟨hm', a1, a2, a3, a4⟩ := k1 cc
      obtain ⟨hc', b1, b2, b3, b4, b5⟩ := e_move H2 hp ha hb hne p2
      rw [a1, b1, bv_s, bd_s]
      simp only [inb_n hp (by omega), ck_t, nI_clamp (show p < 2 ^ 31 by omega)]
      rw [b2 42 p (by decide), H2.1.2.2.2.2.2.1.2.2.2.1 p]
      exact OK2_c (run_RR H2 hp ha hb hne hr r b2 b3 a2 a3 cc)
    · rw [if_neg cc, k2 cc, bd_s]
      exact OK2_c H2
theorem op_layer (H : RR hc hm) (p1 p2 : Int32) : OK2 (fX11_layer p1 p2 hc) (fX12_layer p1 p2 hm) := by
  have H2 := RR_thrown 0 H
  have g : ∀ b i, ¬ (b = 0 ∧ i = 22) → gI (pI hm 0 22 0) b i = gI hm b i := fun b i hb => by rw [gI_pI, if_neg hb]
  simp only [fX11_layer, fX12_layer, nm_e1, f_between, f_in, f_isDepthC, f_isDepthM, bd_s, if10s, g 0 11 (by decide), g 6 _ (show ¬ (6 = 0 ∧ _ = 22) by simp)]
  refine OK2_if (fun c1 => OK2_if (fun c2 => ?_) (fun _ => OK2_c H2)) (fun _ => OK2_c H2)
  obtain ⟨m6, em, up⟩ := VY_n (RR_VY H)
  have hb := H.1.2.1
  simp only [RB] at hb
  obtain ⟨b1, b2, b3, b4, b5, b6, b7, b8, b9, b10, b11, b12⟩ := hb
  generalize hM : nLy hm = m at m6 em up
  unfold fX10_addLayer
  rw [b6, em, show (6 : Int32) = nI 6 from nI_lit]
  by_cases c6 : m = 6
  · subst c6
    rw [if_pos (nI_le (by omega) (by omega)), if_pos rfl, bd_s]
    exact OK2_c H2
  · rw [if_neg (nI_ge (by omega) (by omega)), if_neg (fun z => c6 ((nI_eq (by omega) (by omega)).mp z))]
    have fin : (∀ i, i < m → gI hm 6 i < p1) → OK2 (bd (fX10_addLayer_33 p1 p2 hc) (fun r8 h7 => some (r8, h7))) (fX12_layer_58 p1 p2 (pI hm 0 22 0)) := by
      intro hlt
      have u1 : ∀ (h : HS) a k v, ¬ a = 3 → gI (pI h a k v) 3 2 = gI h 3 2 := fun h a k v ha => by rw [gI_pI, if_neg (fun z => ha z.1.symm)]
      have u2 : ∀ (h : HS) a k v, ¬ a = 0 → gI (pI h a k v) 0 11 = gI h 0 11 := fun h a k v ha => by rw [gI_pI, if_neg (fun z => ha z.1.symm)]
      unfold fX10_addLayer_33 fX12_layer_58
      simp only [nm_e1, u1 _ 33 _ _ (by decide), u1 _ 34 _ _ (by decide), u2 _ 6 _ _ (by decide), u2 _ 7 _ _ (by decide), g 0 11 (by decide), b6, em, inb_n (show m < 6 by omega) (by omega), ck_t, nI_clamp (show m < 2 ^ 31 by omega), nI_1, bd_s]
      rw [show ∀ h : HS, gI (pI h 3 2 (nI (m + 1))) 3 2 = nI (m + 1) from fun h => by rw [gI_pI, if_pos ⟨rfl, rfl⟩], show ∀ h : HS, gI (pI h 0 11 (nI (m + 1))) 0 11 = nI (m + 1) from fun h => by rw [gI_pI, if_pos ⟨rfl, rfl⟩]]
      refine OK2_c (RR_upB (cg_pI rfl (cg_pI rfl (cg_pI rfl cg_rf))) (cg_pI rfl (cg_pI rfl (cg_pI rfl (cg_pI rfl cg_rf)))) ?_ ?_ H)
      · simp [RB, gI_pI, gI_pIr, b1, b2, b3, b4, b5, b7, b8, b9, b10, b11, b12]
      · have hi := H.2.1.2.1
        have i7 := hi.2.2.2.2.2.2.1
        simp only [IB] at hi
        have e0 : nLy (pI (pI (pI (pI hm 0 22 0) 6 m p1) 7 m p2) 0 11 (nI (m + 1))) = m + 1 := by
          show (gI (pI (pI (pI (pI hm 0 22 0) 6 m p1) 7 m p2) 0 11 (nI (m + 1))) 0 11).toNatClampNeg = m + 1
          rw [gI_pI, if_pos ⟨rfl, rfl⟩, nI_clamp (by omega)]
        have e6 : ∀ i, gI (pI (pI (pI (pI hm 0 22 0) 6 m p1) 7 m p2) 0 11 (nI (m + 1))) 6 i = if i = m then p1 else gI hm 6 i := fun i => by simp [gI_pI]
        have e7 : ∀ i, gI (pI (pI (pI (pI hm 0 22 0) 6 m p1) 7 m p2) 0 11 (nI (m + 1))) 7 i = if i = m then p2 else gI hm 7 i := fun i => by simp [gI_pI]
        have r1 := rngI 0 600 c1
        have r2 := rngI 900 1100 c2
        have v1 : VY (pI (pI (pI (pI hm 0 22 0) 6 m p1) 7 m p2) 0 11 (nI (m + 1))) := by
          refine ⟨m + 1, by omega, by rw [gI_pI, if_pos ⟨rfl, rfl⟩], fun i j hij hj => ?_⟩
          rw [e6, e6, if_neg (show ¬ i = m by omega)]
          by_cases z : j = m
          · rw [if_pos z]; exact hlt i (by omega)
          · rw [if_neg z]; exact up i j hij (by omega)
        have v2 : ∀ i, i < nLy (pI (pI (pI (pI hm 0 22 0) 6 m p1) 7 m p2) 0 11 (nI (m + 1))) → (0 ≤ (gI (pI (pI (pI (pI hm 0 22 0) 6 m p1) 7 m p2) 0 11 (nI (m + 1))) 6 i).toInt ∧ (gI (pI (pI (pI (pI hm 0 22 0) 6 m p1) 7 m p2) 0 11 (nI (m + 1))) 6 i).toInt ≤ 600) ∧ 900 ≤ (gI (pI (pI (pI (pI hm 0 22 0) 6 m p1) 7 m p2) 0 11 (nI (m + 1))) 7 i).toInt ∧ (gI (pI (pI (pI (pI hm 0 22 0) 6 m p1) 7 m p2) 0 11 (nI (m + 1))) 7 i).toInt ≤ 1100 := by
          intro i hi9
          rw [e0] at hi9
          rw [e6, e7]
          by_cases z : i = m
          · rw [if_pos z, if_pos z]; exact ⟨r1, r2⟩
          · rw [if_neg z, if_neg z]; exact i7 i (by rw [hM]; omega)
        refine ⟨?_, ?_, ?_, ?_, ?_, v1, v2, ?_, ?_, ?_, ?_⟩ <;> simp [gI_pI, hi]
    by_cases c0 : m = 0
    · subst c0
      rw [if_pos (by rw [nI_0]; decide), if_pos (by rw [nI_0]; decide)]
      exact fin (fun i hi => by omega)
    · have em1 : nI m - 1 = nI (m - 1) := by
        obtain ⟨k, rfl⟩ : ∃ k, m = k + 1 := ⟨m - 1, by omega⟩
        exact nI_pred k
      rw [if_neg (nI_nle (by omega) (by omega)), if_neg (nI_nle (by omega) (by omega)), em1]
      simp only [inb_n (show m - 1 < 6 by omega) (by omega), ck_t, nI_clamp (show m - 1 < 2 ^ 31 by omega)]
      rw [b7 (m - 1)]
      by_cases cl : gI hm 6 (m - 1) < p1
      · rw [if_pos cl, if_pos cl]
        refine fin (fun i hi => ?_)
        by_cases z : i = m - 1
        · rw [z]; exact cl
        · have := up i (m - 1) (by omega) (by omega)
          rw [i32_lt] at this cl ⊢
          omega
      · rw [if_neg cl, if_neg cl, bd_s]
        exact OK2_c H2
theorem e_isEnd (H : RR hc hm) (x : Int32) (dc : Decidable (endP hm x)) : fX11_isPumpEnd x hc = some (if endP hm x then 1 else 0, hc) ∧ fX12_isEnd x hm = some (if endP hm x then 1 else 0, hm) := by
  have d1 : Decidable (isK hm x 0) := Classical.propDecidable _
  unfold fX11_isPumpEnd fX11_isPumpEnd_17 fX12_isEnd fX12_isEnd_14
  rw [e_isA H x 0 d1, e_isOf H x 0 d1, bd_s, bd_s]
  simp only [if10s]
  by_cases c : x = -1
  · rw [if_pos c, if_pos c, if_pos (show endP hm x from Or.inl c)]
    exact ⟨rfl, rfl⟩
  · rw [if_neg c, if_neg c]
    by_cases c2 : isK hm x 0
    · rw [if_pos c2, if_pos c2, if_pos (show endP hm x from Or.inr c2)]
      exact ⟨rfl, rfl⟩
    · rw [if_neg c2, if_neg c2, if_neg (show ¬ endP hm x from fun z => z.elim c c2)]
      exact ⟨rfl, rfl⟩
theorem endP_cg {hm' : HS} (e0 : gI hm' 0 0 = gI hm 0 0) (e1 : ∀ i, gI hm' 1 i = gI hm 1 i) (x : Int32) : endP hm' x ↔ endP hm x := by
  unfold endP nLd
  rw [e0]
  simp only [e1]
theorem vpn01 (x : Int32) : vp_nar .boolean x = 0 ∨ vp_nar .boolean x = 1 := by
  have e : vp_nar .boolean x = x &&& 1 := rfl
  rw [e]
  obtain ⟨j, hj, h2⟩ := pk_andE x (m := 1) 1 (by decide)
  rw [h2]
  have : j = 0 ∨ j = 1 := by omega
  rcases this with rfl | rfl
  · exact Or.inl nI_0
  · exact Or.inr (by decide)
theorem op_pump (H : RR hc hm) (p1 p2 p3 p4 : Int32) : OK2 (fX11_pump p1 p2 p3 p4 hc) (fX12_pump p1 p2 p3 p4 hm) := by
  have H2 := RR_thrown 0 H
  have d1 : ∀ x : Int32, Decidable (endP (pI hm 0 22 0) x) := fun _ => Classical.propDecidable _
  simp only [fX11_pump, fX11_pump_25, fX11_pump_26, fX12_pump, nm_e1, (e_isEnd H2 p1 (d1 p1)).1, (e_isEnd H2 p1 (d1 p1)).2, (e_isEnd H2 p2 (d1 p2)).1, (e_isEnd H2 p2 (d1 p2)).2, f_between, f_in, bd_s, if10s, if_true]
  refine OK2_if (fun c1 => OK2_if (fun c2 => OK2_if (fun _ => OK2_c H2) (fun c3 => ?_)) (fun _ => OK2_c H2)) (fun _ => OK2_c H2)
  rw [if_neg (by decide)]
  refine OK2_if (fun c4 => ?_) (fun _ => OK2_c H2)
  obtain ⟨q, q1, q2, q3⟩ := H.2.1.2.2.1
  obtain ⟨r1, r2, r3, r4, r5⟩ := H.1.2.2.2.2.2.1
  have e0 : gI (pI hm 0 22 0) 0 39 = nI q := by rw [gI_pI, if_neg (by decide)]; exact q2
  have e1 : gI hc 6 3 = nI q := r1.trans q2
  unfold fX5_add
  rw [e0, e1, show (6 : Int32) = nI 6 from nI_lit]
  by_cases c : q = 6
  · subst c
    rw [if_neg (by decide), if_pos rfl, bd_s]
    exact OK2_c H2
  · rw [if_pos (nI_lt (by omega) (by omega)), if_neg (fun z => c ((nI_eq (by omega) (by omega)).mp z))]
    have u1 : ∀ (h : HS) a k v, ¬ a = 6 → gI (pI h a k v) 6 3 = gI h 6 3 := fun h a k v ha => by rw [gI_pI, if_neg (fun z => ha z.1.symm)]
    have u2 : ∀ (h : HS) a k v, ¬ a = 0 → gI (pI h a k v) 0 39 = gI h 0 39 := fun h a k v ha => by rw [gI_pI, if_neg (fun z => ha z.1.symm)]
    simp only [bd_s, nm_e1, u1 _ 40 _ _ (by decide), u1 _ 41 _ _ (by decide), u1 _ 42 _ _ (by decide), u1 _ 43 _ _ (by decide), u2 _ 17 _ _ (by decide), u2 _ 18 _ _ (by decide), u2 _ 19 _ _ (by decide), u2 _ 20 _ _ (by decide), e0, e1, inb_n (show q < 6 by omega) (by omega), ck_t, nI_clamp (show q < 2 ^ 31 by omega), nI_1]
    rw [show ∀ h : HS, gI (pI h 6 3 (nI (q + 1))) 6 3 = nI (q + 1) from fun h => by rw [gI_pI, if_pos ⟨rfl, rfl⟩], show ∀ h : HS, gI (pI h 0 39 (nI (q + 1))) 0 39 = nI (q + 1) from fun h => by rw [gI_pI, if_pos ⟨rfl, rfl⟩]]
    refine OK2_c (RR_upP (cg_pI rfl (cg_pI rfl (cg_pI rfl (cg_pI rfl (cg_pI rfl cg_rf))))) (cg_pI rfl (cg_pI rfl (cg_pI rfl (cg_pI rfl (cg_pI rfl (cg_pI rfl cg_rf)))))) ?_ ?_ H)
    · refine ⟨by simp [gI_pI], fun k => by simp [gI_pI, r2], fun k => by simp [gI_pI, r3], fun k => by simp [gI_pI, r4], fun k => by simp [gI_pI, r5]⟩
    · refine ⟨q + 1, by omega, by rw [gI_pI, if_pos ⟨rfl, rfl⟩], fun p hp => ?_⟩
      have ee : ∀ x, endP (pI (pI (pI (pI (pI (pI hm 0 22 0) 17 q p1) 18 q p2) 19 q p3) 20 q (vp_nar .boolean p4)) 0 39 (nI (q + 1))) x ↔ endP hm x := fun x => endP_cg (by simp [gI_pI]) (fun i => by simp [gI_pI]) x
      have ef : ∀ x, endP (pI hm 0 22 0) x ↔ endP hm x := fun x => endP_cg (by simp [gI_pI]) (fun i => by simp [gI_pI]) x
      rw [ee, ee]
      simp only [gI_pI]
      have rr := rngI 1 50 c4
      by_cases z : p = q
      · subst z
        simp
        exact ⟨(ef p1).mp c1, (ef p2).mp c2, c3, rr, vpn01 p4⟩
      · simp [z]
        exact q3 p (by omega)
end OPV
