section SHE
variable {hc hm : HS}
theorem RR_hold (H : RR hc hm) : holdsL hc (tanksM hm) ∧ gI hc 2 7 = nI (tanksM hm).length ∧ (tanksM hm).length ≤ nLd hm ∧ (∀ j, j ∈ tanksM hm ↔ j < nLd hm ∧ gI hm 1 j = 0) := by
  obtain ⟨A1, A2⟩ := H.1.2.2.2.2.2.2.2.2.2
  refine ⟨A2, A1, ?_, fun j => ?_⟩
  · unfold tanksM; rw [List.length_reverse]; exact ordR_len
  · unfold tanksM; rw [List.mem_reverse]; exact ordR_mem
theorem l_empT {L : List Nat} (hL : ∀ j ∈ L, j < 15) (hlen : L.length ≤ 15) : ∀ (k i : Nat) (h : HS), i + k = L.length → holdsL h L → gI h 2 7 = nI L.length → ∀ n, k < n → ∃ h', fX4_emptyTanks_2 n (nI i) h = some h' ∧ onlyH h h' 30 ∧ ∀ j, gI h' 30 j = if j ∈ L.drop i then 0 else gI h 30 j := by
  intro k
  induction k with
  | zero =>
    intro i h hi hh e n hn
    obtain ⟨m, rfl⟩ := fuel1 hn
    refine ⟨h, by rw [fX4_emptyTanks_2, e, if_pos (nI_le (by omega) (by omega))], onlyH_r, fun j => ?_⟩
    rw [List.drop_eq_nil_of_le (by omega), if_neg (by simp)]
  | succ k ih =>
    intro i h hi hh e n hn
    obtain ⟨m, rfl⟩ := fuel1 hn
    have hil : i < L.length := by omega
    have ea := hh i L[i] (List.getElem?_eq_getElem hil)
    have ha : L[i] < 15 := hL _ (List.getElem_mem hil)
    obtain ⟨h', a1, a2, a3⟩ := ih (i + 1) (pI h 30 L[i] 0) (by omega) (fun k j hk => by rw [gI_pI, if_neg (by omega)]; exact hh k j hk) (by rw [gI_pI, if_neg (by omega)]; exact e) m (by omega)
    refine ⟨h', ?_, onlyH_t (onlyH_p onlyH_r) a2, fun j => ?_⟩
    · rw [fX4_emptyTanks_2, e, if_neg (nI_ge (by omega) (by omega)), inb_n (show i < 15 by omega) (by omega), ck_t, nI_clamp (by omega), ea, inb_n ha (by omega), ck_t, nI_clamp (by omega), nm_e1, nm_e1, nI_1]
      exact a1
    · rw [a3 j, List.drop_eq_getElem_cons hil, gI_pI]
      by_cases z : j ∈ L.drop (i + 1)
      · rw [if_pos z, if_pos (List.mem_cons_of_mem _ z)]
      · rw [if_neg z]
        by_cases y : j = L[i]
        · rw [if_pos ⟨rfl, y⟩, if_pos (by rw [y]; exact List.mem_cons_self)]
        · rw [if_neg (fun q => y q.2), if_neg (fun q => by rcases List.mem_cons.mp q with q | q; exact y q; exact z q)]
theorem l_she30 {N : Nat} (hN : N ≤ 15) : ∀ (k i : Nat) (h : HS), i + k = N → gI h 0 0 = nI N → ∀ n, k < n → ∃ h', fX12_sheet_30 n (nI i) h = some (-3, h') ∧ onlyH h h' 5 ∧ ∀ j, gI h' 5 j = if i ≤ j ∧ j < N ∧ gI h 1 j = 0 then 0 else gI h 5 j := by
  intro k
  induction k with
  | zero =>
    intro i h hi e n hn
    obtain ⟨m, rfl⟩ := fuel1 hn
    exact ⟨h, by rw [fX12_sheet_30, e, if_pos (nI_le (by omega) (by omega))], onlyH_r, fun j => by rw [if_neg (by omega)]⟩
  | succ k ih =>
    intro i h hi e n hn
    obtain ⟨m, rfl⟩ := fuel1 hn
    rw [fX12_sheet_30, e, if_neg (nI_ge (by omega) (by omega)), inb_n (show i < 15 by omega) (by omega), ck_t, nI_clamp (by omega)]
    simp only [nm_e1, nI_1]
    by_cases c : gI h 1 i = 0
    · rw [if_pos c, ck_t]
      obtain ⟨h', a1, a2, a3⟩ := ih (i + 1) (pI h 5 i 0) (by omega) (by rw [gI_pI, if_neg (by omega)]; exact e) m (by omega)
      refine ⟨h', a1, onlyH_t (onlyH_p onlyH_r) a2, fun j => ?_⟩
      rw [a3 j, gI_pI, gI_pI, if_neg (show ¬ (1 = 5 ∧ j = i) by omega)]
      by_cases z : j = i
      · subst z
        rw [if_neg (by omega), if_pos ⟨rfl, rfl⟩, if_pos ⟨by omega, by omega, c⟩]
      · rw [if_neg (show ¬ (5 = 5 ∧ j = i) from fun q => z q.2)]
        by_cases y : i + 1 ≤ j ∧ j < N ∧ gI h 1 j = 0
        · rw [if_pos y, if_pos ⟨by omega, y.2⟩]
        · rw [if_neg y, if_neg (fun q => y ⟨by omega, q.2⟩)]
    · rw [if_neg c]
      obtain ⟨h', a1, a2, a3⟩ := ih (i + 1) h (by omega) e m (by omega)
      refine ⟨h', a1, a2, fun j => ?_⟩
      rw [a3 j]
      by_cases z : j = i
      · subst z
        rw [if_neg (by omega), if_neg (fun q => c q.2.2)]
      · by_cases y : i + 1 ≤ j ∧ j < N ∧ gI h 1 j = 0
        · rw [if_pos y, if_pos ⟨by omega, y.2⟩]
        · rw [if_neg y, if_neg (fun q => y ⟨by omega, q.2⟩)]
def entV (k v : Int32) : Int32 := if k = 0 then v.toInt8.toInt32 else if k = 1 then v.toInt16.toInt32 else v
/-- what a load is put to -/
theorem put_RR (H : RR hc hm) {i : Nat} (hi : i < nLd hm) (v : Int32) : fX4_put (nI i) v hc = some (pI hc 30 i (imax 0 (imin (gI hm 4 i) v))) ∧ RR (pI hc 30 i (imax 0 (imin (gI hm 4 i) v))) (pI hm 5 i (imax 0 (imin (gI hm 4 i) v))) := by
  have h15 := RR_15 H
  refine ⟨?_, ?_⟩
  · unfold fX4_put fX11_clamp
    rw [f_thereC (by omega) (RR_eC H), bd_s, if10s, if_pos (show ∃ a, a < nLd hm ∧ nI i = nI a from ⟨i, hi, rfl⟩)]
    simp only [inb_n (show i < 15 by omega) (by omega), ck_t, nI_clamp (show i < 2 ^ 31 by omega), bd_s, nm_e1, H.1.1.2.2.2.2.1]
  · refine RR_has2 (onlyH_p onlyH_r) (onlyH_p onlyH_r) (fun k => ?_) (fun k hk => ?_) H
    · simp only [gI_pI, H.1.1.2.2.2.2.2, true_and]
    · obtain ⟨-, -, -, y1, y2, y3⟩ := H.2.1.1.2 k hk
      rw [gI_pI]
      by_cases z : k = i
      · subst z
        rw [if_pos ⟨rfl, rfl⟩, imax_toInt, imin_toInt, i32_z]
        omega
      · rw [if_neg (fun q => z q.2)]
        exact ⟨y1, y2⟩
theorem op_sheet (H : RR hc hm) (p1 p2 p3 p4 : Int32) : OK2 (fX11_sheet p1 p2 p3 p4 hc) (fX12_sheet p1 p2 p3 p4 hm) := by
  have H2 := RR_thrown 0 H
  have h15 := RR_15 H
  simp only [fX11_sheet, fX12_sheet, f_between, f_in, bd_s, nm_e1, if10s]
  refine OK2_if (fun c1 => OK2_if (fun c2 => OK2_if (fun c3 => ?_) (fun c3 => OK2_if (fun c4 => ?_) (fun _ => OK2_c H2))) (fun _ => OK2_c H2)) (fun _ => OK2_c H2)
  · obtain ⟨A1, A2, A3, A4⟩ := RR_hold H
    obtain ⟨hc', a1, a2, a3⟩ := l_empT (L := tanksM hm) (fun j hj => by have := ((A4 j).mp hj).1; omega) (by omega) (tanksM hm).length 0 hc (by omega) A1 A2 FU (FU_gt (by omega))
    obtain ⟨hm', b1, b2, b3⟩ := l_she30 (N := nLd hm) h15 (nLd hm) 0 (pI hm 0 22 0) (by omega) (RR_eM H2) FU (FU_gt (by omega))
    rw [nI_0] at a1 b1
    unfold fX4_emptyTanks
    rw [a1, bv_s, b1]
    refine OK2_c (RR_has2 a2 b2 (fun k => ?_) (fun k hk => ?_) H2)
    · rw [a3, b3, List.drop_zero, gI_pI, gI_pI, if_neg (show ¬ (1 = 0 ∧ k = 22) by omega), if_neg (show ¬ (5 = 0 ∧ k = 22) by omega), H.1.1.2.2.2.2.2]
      by_cases z : k ∈ tanksM hm
      · rw [if_pos z, if_pos ⟨by omega, (A4 k).mp z⟩]
      · rw [if_neg z, if_neg (fun q => z ((A4 k).mpr q.2))]
    · obtain ⟨-, -, -, y1, y2, y3⟩ := H2.2.1.1.2 k hk
      rw [b3]
      split
      · rw [i32_z]; omega
      · exact ⟨y1, y2⟩
  · obtain ⟨n2, hn2, rfl⟩ := upto 15 (by decide +kernel) ⟨c4, c2⟩
    rw [RR_eC H, imin_n (by omega) (by omega)]
    have ent : ∀ v (h : HS), fX11_entry p1 v h = some (entV p1 v, h) := fun v h => by
      unfold fX11_entry entV
      split
      · rfl
      · split <;> rfl
    have key : ∀ (k i : Nat) (hc hm' : HS), RR hc hm' → nLd hm' = nLd hm → i + k = min n2 (nLd hm) → ∀ n m, k < n → k < m → OK2 (fX11_sheet_55 n p1 p3 p4 (nI (min n2 (nLd hm))) (nI i) hc) (fX12_sheet_82 m p1 (nI n2) p4 (nI i) (p3 + nI i * p4) (nI i) hm') := by
      intro k
      induction k with
      | zero =>
        intro i hc hm' H' eN hi n m hn hm1
        obtain ⟨n', rfl⟩ := fuel1 hn
        obtain ⟨m', rfl⟩ := fuel1 hm1
        rw [fX11_sheet_55, fX12_sheet_82, RR_eM H', eN, if_pos (nI_le (by omega) (by omega))]
        rw [show min n2 (nLd hm) = i by omega]
        by_cases z : nLd hm ≤ i
        · rw [if_pos (nI_le z (by omega))]; exact OK2_c H'
        · rw [if_neg (nI_ge (by omega) (by omega)), if_pos (nI_le (by omega) (by omega))]; exact OK2_c H'
      | succ k ih =>
        intro i hc hm' H' eN hi n m hn hm1
        obtain ⟨n', rfl⟩ := fuel1 hn
        obtain ⟨m', rfl⟩ := fuel1 hm1
        obtain ⟨q1, q2⟩ := put_RR H' (i := i) (by omega) (entV p1 (p3 + nI i * p4))
        have ev : p3 + nI i * p4 + p4 = p3 + nI (i + 1) * p4 := by rw [← nI_1]; grind
        rw [fX11_sheet_55, fX12_sheet_82, RR_eM H', eN, if_neg (nI_ge (by omega) (by omega)), if_neg (nI_ge (by omega) (by omega)), if_neg (nI_ge (by omega) (by omega)), ent, bd_s, q1, bv_s]
        have mm : ∀ X : Int32, fX12_sheet_120 (fX12_sheet_82 m') p1 (nI n2) p4 (nI i) (p3 + nI i * p4) (nI i) X hm' = fX12_sheet_82 m' p1 (nI n2) p4 (nI (i + 1)) (p3 + nI (i + 1) * p4) (nI (i + 1)) (pI hm' 5 i (imax 0 (imin (gI hm' 4 i) X))) := by
          intro X
          unfold fX12_sheet_120
          simp only [inb_n (show i < 15 by omega) (by omega), ck_t, nI_clamp (show i < 2 ^ 31 by omega), nm_e1, nI_1, ev]
        rw [mm, mm, mm, nm_e1, nI_1]
        have R := ih (i + 1) _ _ q2 (by show nLd hm' = nLd hm; exact eN) (by omega) n' m' (by omega) (by omega)
        unfold entV at R ⊢
        by_cases z0 : p1 = 0
        · rw [if_pos z0]
          simp only [if_pos z0] at R ⊢
          exact R
        · rw [if_neg z0]
          simp only [if_neg z0] at R ⊢
          by_cases z1 : p1 = 1
          · rw [if_pos z1]
            simp only [if_pos z1] at R ⊢
            exact R
          · rw [if_neg z1]
            simp only [if_neg z1] at R ⊢
            exact R
    have k0 := key (min n2 (nLd hm)) 0 hc _ H2 rfl (by omega) FU FU (FU_gt (by omega)) (FU_gt (by omega))
    rw [nI_0, Int32.zero_mul, Int32.add_zero] at k0
    exact k0
end SHE
