section OPF
variable {hc hm : HS}
theorem depth_n {x : Int32} (h : 0 ≤ x ∧ x ≤ 600) : ∃ n, n ≤ 600 ∧ x = nI n := by
  have r := rngI 0 600 h
  exact ⟨x.toInt.toNat, by omega, i32_eqI (by omega)⟩
theorem nI_depth {n : Nat} (h : n ≤ 600) : (0 : Int32) ≤ nI n ∧ nI n ≤ 600 := by
  rw [i32_le, i32_le, nI_toInt (by omega), i32_z]
  have : (600 : Int32).toInt = 600 := by decide +kernel
  omega
theorem e_wayDown (h : HS) (p1 p2 : Int32) : fX11_isWayDown p1 p2 h = some (if (0 ≤ p1 ∧ p1 ≤ 600) ∧ (0 ≤ p2 ∧ p2 ≤ 600) ∧ p1 ≤ p2 then 1 else 0, h) := by
  unfold fX11_isWayDown
  rw [f_isDepthC, bd_s, if10s]
  by_cases c1 : 0 ≤ p1 ∧ p1 ≤ 600
  · rw [if_pos c1, f_isDepthC, bd_s, if10s]
    by_cases c2 : 0 ≤ p2 ∧ p2 ≤ 600
    · rw [if_pos c2]
      by_cases c3 : p2 < p1
      · rw [if_pos c3, if_neg (fun z => Int32.not_le.mpr c3 z.2.2)]
      · rw [if_neg c3, if_pos ⟨c1, c2, Int32.not_lt.mp c3⟩]
    · rw [if_neg c2, if_neg (fun z => c2 z.2.1)]
  · rw [if_neg c1, if_neg (fun z => c1 z.1)]
theorem op_lies (H : RR hc hm) (p1 p2 : Int32) : OK2 (fX11_lies p1 p2 hc) (fX12_lies p1 p2 hm) := by
  have H2 := RR_thrown 0 H
  simp only [fX11_lies, fX12_lies, nm_e1, e_wayDown, f_isDepthM, bd_s, if10s]
  by_cases c1 : (0 : Int32) ≤ p1 ∧ p1 ≤ 600
  · by_cases c2 : (0 : Int32) ≤ p2 ∧ p2 ≤ 600
    · by_cases c3 : p1 ≤ p2
      · rw [if_pos ⟨c1, c2, c3⟩, if_pos c1, if_pos c2, if_pos c3, e_weightC (RR_VNc H2), bd_s, RR_Wc H2]
        obtain ⟨a, ha, rfl⟩ := depth_n c1
        obtain ⟨b, hb, rfl⟩ := depth_n c2
        have hab : a ≤ b := (nI_leI (by omega) (by omega)).mp c3
        have key : ∀ (k d : Nat), d + k = b + 1 → ∀ n, k < n → OK2 (fX11_lies_21 n (nI b) (Wm (pI hm 0 22 0)) (nI d) hc) (fX12_lies_28 n (nI b) (nI d) (pI hm 0 22 0)) := by
          intro k
          induction k with
          | zero =>
            intro d hd n hn
            obtain ⟨m, rfl⟩ := fuel1 hn
            rw [fX11_lies_21, fX12_lies_28, if_pos (nI_lt (by omega) (by omega)), if_pos (nI_lt (by omega) (by omega))]
            exact OK2_c H2
          | succ k ih =>
            intro d hd n hn
            obtain ⟨m, rfl⟩ := fuel1 hn
            rw [fX11_lies_21, fX12_lies_28, if_neg (nI_nlt (by omega) (by omega)), if_neg (nI_nlt (by omega) (by omega)), e_liftC (RR_VYc H2), bd_s, e_heavyM (RR_VN H2) (RR_VY H2), bd_s, RR_Lc H2]
            obtain ⟨e, -, -⟩ := H_rng H2.2.1.1 H2.2.1.2.1 (nI d) (nI_depth (by omega))
            have iff : Lm (pI hm 0 22 0) (nI d) < Wm (pI hm 0 22 0) ↔ 0 < Hm (pI hm 0 22 0) (nI d) := by
              rw [i32_lt, i32_lt, e, i32_z]
              omega
            by_cases z : 0 < Hm (pI hm 0 22 0) (nI d)
            · rw [if_pos z, if_pos (iff.mpr z), nm_e1, nm_e1, nI_1]
              exact ih (d + 1) (by omega) m (by omega)
            · rw [if_neg z, if_neg (fun q => z (iff.mp q))]
              exact OK2_c H2
        exact key (b + 1 - a) a (by omega) FU (FU_gt (by omega))
      · rw [if_neg (fun z => c3 z.2.2), if_pos c1, if_pos c2, if_neg c3]
        exact OK2_c H2
    · rw [if_neg (fun z => c2 z.2.1), if_pos c1, if_neg c2]
      exact OK2_c H2
  · rw [if_neg (fun z => c1 z.1), if_neg c1]
    exact OK2_c H2
theorem op_hover (H : RR hc hm) (p1 p2 : Int32) : OK2 (fX11_hover p1 p2 hc) (fX12_hover p1 p2 hm) := by
  have H2 := RR_thrown 0 H
  simp only [fX11_hover, fX12_hover, nm_e1, e_wayDown, f_isDepthM, bd_s, if10s]
  by_cases c1 : (0 : Int32) ≤ p1 ∧ p1 ≤ 600
  · by_cases c2 : (0 : Int32) ≤ p2 ∧ p2 ≤ 600
    · by_cases c3 : p1 ≤ p2
      · have dl : Decidable (iabs (Mc hc) ≤ gI hc 17 1 ∧ iabs (Tc hc) ≤ gI hc 17 2) := inferInstance
        rw [if_pos ⟨c1, c2, c3⟩, if_pos c1, if_pos c2, if_pos c3, e_levC (RR_VNc H2) dl, bd_s, e_weightC (RR_VNc H2), bd_s, RR_Wc H2]
        have lvc : (iabs (Mc hc) ≤ gI hc 17 1 ∧ iabs (Tc hc) ≤ gI hc 17 2) ↔ (iabs (Mm (pI hm 0 22 0)) ≤ gI (pI hm 0 22 0) 8 1 ∧ iabs (Tm (pI hm 0 22 0)) ≤ gI (pI hm 0 22 0) 8 2) := by rw [RR_Mc H2, RR_Tc H2, RR_sl H2, RR_sl H2]
        obtain ⟨a, ha, rfl⟩ := depth_n c1
        obtain ⟨b, hb, rfl⟩ := depth_n c2
        have hab : a ≤ b := (nI_leI (by omega) (by omega)).mp c3
        have fin : ∀ cnt f l : Int32, OK2 (fX11_hover_103 cnt f l hc) (nm (pI (pI hm 0 22 0) 0 21 (0 : Int32)) (fun h10 => if cnt ≤ 0 then (some (cnt, h10)) else (bv (fX12_tell f h10) (fun h12 => bv (fX12_tell l h12) (fun h13 => some (cnt, h13)))))) := by
          intro cnt f l
          unfold fX11_hover_103
          obtain ⟨r1, r2, r3⟩ := row0 H2
          rw [r1, bv_s, nm_e1]
          refine OK2_if (fun _ => OK2_c r2) (fun _ => ?_)
          obtain ⟨s1, s2, s3, s4⟩ := row1 r2 r3 (by omega) f
          obtain ⟨t1, t2, t3, t4⟩ := row1 s3 s4 (by omega) l
          rw [s1, s2, bv_s, bv_s, t1, t2, bv_s, bv_s]
          exact OK2_c t3
        have dB : ∀ d, Decidable (Bm (pI hm 0 22 0) d) := fun d => by unfold Bm; infer_instance
        by_cases lv : iabs (Mm (pI hm 0 22 0)) ≤ gI (pI hm 0 22 0) 8 1 ∧ iabs (Tm (pI hm 0 22 0)) ≤ gI (pI hm 0 22 0) 8 2
        · rw [if_pos (lvc.mpr lv)]
          have key : ∀ (k d : Nat), d + k = b + 1 → ∀ n, k < n → ∀ cnt f l : Int32, OK2 (fX11_hover_39 n (nI b) 1 (Wm (pI hm 0 22 0)) cnt f l (nI d) hc) (fX12_hover_37 n (nI b) cnt f l (nI d) (pI hm 0 22 0)) := by
            intro k
            induction k with
            | zero =>
              intro d hd n hn cnt f l
              obtain ⟨m, rfl⟩ := fuel1 hn
              rw [fX11_hover_39, fX12_hover_37, if_neg (by decide), if_pos (nI_lt (by omega) (by omega)), if_pos (nI_lt (by omega) (by omega))]
              exact fin cnt f l
            | succ k ih =>
              intro d hd n hn cnt f l
              obtain ⟨m, rfl⟩ := fuel1 hn
              rw [fX11_hover_39, fX12_hover_37, if_neg (by decide), if_neg (nI_nlt (by omega) (by omega)), if_neg (nI_nlt (by omega) (by omega)), e_liftC (RR_VYc H2), bd_s, e_balM (RR_VN H2) (RR_VY H2) _ (dB _), bd_s, if10s, RR_Lc H2, RR_sl H2]
              rw [show Wm (pI hm 0 22 0) - Lm (pI hm 0 22 0) (nI d) = Hm (pI hm 0 22 0) (nI d) from rfl]
              unfold fX11_hover_88 fX12_hover_66
              simp only [nm_e1, nI_1]
              by_cases z : Bm (pI hm 0 22 0) (nI d)
              · rw [if_pos z, if_neg (Int32.not_lt.mpr z.1)]
                refine OK2_if (fun _ => ?_) (fun _ => ?_)
                · exact ih (d + 1) (by omega) m (by omega) _ _ _
                · exact ih (d + 1) (by omega) m (by omega) _ _ _
              · have z2 : gI (pI hm 0 22 0) 8 0 < iabs (Hm (pI hm 0 22 0) (nI d)) := Int32.not_le.mp (fun q => z ⟨q, lv⟩)
                rw [if_neg z, if_pos z2]
                exact ih (d + 1) (by omega) m (by omega) _ _ _
          exact key (b + 1 - a) a (by omega) FU (FU_gt (by omega)) _ _ _
        · rw [if_neg (fun z => lv (lvc.mp z))]
          have cl : ∀ n, 0 < n → fX11_hover_39 n (nI b) 0 (Wm (pI hm 0 22 0)) 0 (-1) (-1) (nI a) hc = fX11_hover_103 0 (-1) (-1) hc := by
            intro n hn
            obtain ⟨m, rfl⟩ := fuel1 hn
            rw [fX11_hover_39, if_pos rfl]
          have ml : ∀ (k d : Nat), d + k = b + 1 → ∀ n, k < n → fX12_hover_37 n (nI b) 0 (-1) (-1) (nI d) (pI hm 0 22 0) = nm (pI (pI hm 0 22 0) 0 21 (0 : Int32)) (fun h10 => if (0 : Int32) ≤ 0 then (some ((0 : Int32), h10)) else (bv (fX12_tell (-1) h10) (fun h12 => bv (fX12_tell (-1) h12) (fun h13 => some ((0 : Int32), h13))))) := by
            intro k
            induction k with
            | zero =>
              intro d hd n hn
              obtain ⟨m, rfl⟩ := fuel1 hn
              rw [fX12_hover_37, if_pos (nI_lt (by omega) (by omega))]
            | succ k ih =>
              intro d hd n hn
              obtain ⟨m, rfl⟩ := fuel1 hn
              rw [fX12_hover_37, if_neg (nI_nlt (by omega) (by omega)), e_balM (RR_VN H2) (RR_VY H2) _ (dB _), bd_s, if10s, if_neg (fun z => lv z.2), nm_e1, nI_1]
              exact ih (d + 1) (by omega) m (by omega)
          rw [cl FU (FU_gt (by omega)), ml (b + 1 - a) a (by omega) FU (FU_gt (by omega))]
          exact fin 0 (-1) (-1)
      · rw [if_neg (fun z => c3 z.2.2), if_pos c1, if_pos c2, if_neg c3]
        exact OK2_c H2
    · rw [if_neg (fun z => c2 z.2.1), if_pos c1, if_neg c2]
      exact OK2_c H2
  · rw [if_neg (fun z => c1 z.1), if_neg c1]
    exact OK2_c H2
end OPF
