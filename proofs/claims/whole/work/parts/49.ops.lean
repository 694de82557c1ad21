section OPE
theorem day_loop : ∀ (k i : Nat) (hc hm : HS), RR hc hm → i + k = nLd hm → ∀ (n m : Nat), k < n → k < m → ∀ v1 : Int32, ∃ v hc' hm', fX8_goDay_4 n v1 (nI i) hc = some (vp_nar .boolean v, pI hc' 1 7 (gI hc' 1 7 + 1)) ∧ fX12_goBy_2 m (nI i) hm = some (pI hm' 0 16 (gI hm' 0 16 + 1)) ∧ RR hc' hm' ∧ onlyH hc hc' 30 ∧ onlyH hm hm' 5 ∧ (v = v1 ∨ v = 1) ∧ (v = 0 → v1 = 0 ∧ ∀ k, gI hm' 5 k = gI hm 5 k) := by
  intro k
  induction k with
  | zero =>
    intro i hc hm H hi n m hn hm1 v1
    have h15 := RR_15 H
    obtain ⟨n', rfl⟩ := fuel1 hn
    obtain ⟨m', rfl⟩ := fuel1 hm1
    refine ⟨v1, hc, hm, ?_, ?_, H, onlyH_r, onlyH_r, Or.inl rfl, fun z => ⟨z, fun _ => rfl⟩⟩
    · rw [fX8_goDay_4, RR_eC H, if_pos (nI_le (by omega) (by omega)), nm_e1]
    · rw [fX12_goBy_2, RR_eM H, if_pos (nI_le (by omega) (by omega)), nm_e1]
  | succ k ih =>
    intro i hc hm H hi n m hn hm1 v1
    have h15 := RR_15 H
    have hil : i < nLd hm := by omega
    obtain ⟨n', rfl⟩ := fuel1 hn
    obtain ⟨m', rfl⟩ := fuel1 hm1
    by_cases hk : gI hm 1 i = 1
    · obtain ⟨hc1, hm1', a1, a2, a3, a4, a5, a6⟩ := day_step H hil hk
      have e0 : nLd hm1' = nLd hm := by show (gI hm1' 0 0).toNatClampNeg = (gI hm 0 0).toNatClampNeg; rw [a5 0 0 (by decide)]
      obtain ⟨v, hc', hm', b1, b2, b3, b4, b5, b6, b7⟩ := ih (i + 1) hc1 hm1' a3 (by omega) n' m' (by omega) (by omega) (if imin (gI hm 30 i) (gI hm 5 i) ≤ 0 then v1 else 1)
      refine ⟨v, hc', hm', ?_, ?_, b3, onlyH_t a4 b4, onlyH_t a5 b5, ?_, fun z => ?_⟩
      · rw [fX8_goDay_4, RR_eC H, if_neg (nI_ge hil (by omega))]
        rw [inb_n (show i < 15 by omega) (by omega), ck_t, nI_clamp (by omega), H.1.1.2.1 i, hk, if_pos rfl]
        have := a1 (fX8_goDay_4 n') v1
        rw [inb_n (show i < 15 by omega) (by omega), ck_t, ck_t, nI_clamp (by omega)] at this
        rw [ck_t, ck_t, this]
        exact b1
      · rw [a2]
        exact b2
      · by_cases c : imin (gI hm 30 i) (gI hm 5 i) ≤ 0
        · rw [if_pos c] at b6; exact b6
        · rw [if_neg c] at b6; exact Or.inr (b6.elim id id)
      · obtain ⟨z1, z2⟩ := b7 z
        by_cases c : imin (gI hm 30 i) (gI hm 5 i) ≤ 0
        · rw [if_pos c] at z1
          exact ⟨z1, fun k => (z2 k).trans (a6 c k)⟩
        · rw [if_neg c] at z1
          exact absurd z1 (by decide)
    · obtain ⟨v, hc', hm', b1, b2, b3, b4, b5, b6, b7⟩ := ih (i + 1) hc hm H (by omega) n' m' (by omega) (by omega) v1
      refine ⟨v, hc', hm', ?_, ?_, b3, b4, b5, b6, b7⟩
      · rw [fX8_goDay_4, RR_eC H, if_neg (nI_ge hil (by omega)), inb_n (show i < 15 by omega) (by omega), ck_t, nI_clamp (by omega), H.1.1.2.1 i, if_neg hk]
        unfold fX8_goDay_50
        rw [if_pos (by decide), nm_e1, nI_1]
        exact b1
      · rw [fX12_goBy_2, RR_eM H, if_neg (nI_ge hil (by omega)), inb_n (show i < 15 by omega) (by omega), ck_t, nI_clamp (by omega), if_neg hk, nm_e1, nI_1]
        exact b2
theorem day_RR {hc hm : HS} (H : RR hc hm) : ∃ r hc' hm', fX8_goDay hc = some (r, hc') ∧ fX12_goBy hm = some hm' ∧ RR hc' hm' ∧ (r = 0 ∨ r = 1) ∧ (r = 0 → ∀ k, gI hm' 5 k = gI hm 5 k) ∧ (∀ b j, ¬ b = 5 → ¬ (b = 0 ∧ j = 16) → gI hm' b j = gI hm b j) ∧ (∀ b j, ¬ b = 30 → ¬ (b = 1 ∧ j = 7) → gI hc' b j = gI hc b j) ∧ gI hm' 0 16 = gI hm 0 16 + 1 := by
  have h15 := RR_15 H
  obtain ⟨v, hc', hm', a1, a2, a3, a4, a5, a6, a7⟩ := day_loop (nLd hm) 0 hc hm H (by omega) FU FU (FU_gt (by omega)) (FU_gt (by omega)) 0
  have r7 := a4 1 7 (by decide)
  have r16 := a5 0 16 (by decide)
  refine ⟨vp_nar .boolean v, pI hc' 1 7 (gI hc' 1 7 + 1), pI hm' 0 16 (gI hm' 0 16 + 1), ?_, ?_, ?_, vpn01 v, fun z k => ?_, fun b j h1 h2 => ?_, fun b j h1 h2 => ?_, ?_⟩
  · unfold fX8_goDay
    rw [← nI_0]
    rw [nI_0] at *
    exact a1
  · unfold fX12_goBy
    rw [← nI_0]
    rw [nI_0] at *
    exact a2
  · refine RR_upB (cg_pI rfl cg_rf) (cg_pI rfl cg_rf) ?_ ?_ a3
    · have hb := a3.1.2.1
      simp only [RB] at hb
      simp [RB, gI_pI, gI_pIr, hb]
    · have hi := a3.2.1.2.1
      simp only [IB, VY, nLy] at hi
      simp [IB, VY, nLy, gI_pI, gI_pIr, hi]
      exact hi.2.2.2.2.2.2.1
  · have v0 : v = 0 := by
      rcases a6 with rfl | rfl
      · rfl
      · rw [nz1] at z; exact absurd z (by decide)
    rw [gI_pI, if_neg (by omega)]
    exact (a7 v0).2 k
  · rw [gI_pI, if_neg h2]
    exact a5 b j h1
  · rw [gI_pI, if_neg h2]
    exact a4 b j h1
  · rw [gI_pI, if_pos ⟨rfl, rfl⟩, r16]
theorem l_emptyC {h : HS} {N : Nat} (hN : N ≤ 15) (e : gI h 2 8 = nI N) : ∀ (k i : Nat), i + k = N → ∀ (n : Nat), k < n → ∀ s : Int32, fX8_emptyOnes_4 n s (nI i) h = some (s + sR (fun i => if gI h 26 i = 1 then (if gI h 30 i = 0 then 1 else 0) else 0) i k, h) := by
  intro k
  induction k with
  | zero =>
    intro i hi n hn s
    obtain ⟨m, rfl⟩ := fuel1 hn
    rw [fX8_emptyOnes_4, e, if_pos (nI_le (by omega) (by omega))]
    simp [sR]
  | succ k ih =>
    intro i hi n hn s
    obtain ⟨m, rfl⟩ := fuel1 hn
    rw [fX8_emptyOnes_4, e, if_neg (nI_ge (by omega) (by omega))]
    unfold fX8_emptyOnes_45 fX8_emptyOnes_46
    simp only [inb_n (show i < 15 by omega) (by omega), ck_t, nm_e1, nI_clamp (show i < 2 ^ 31 by omega), nI_1, ih (i + 1) (by omega) m (by omega), sR]
    by_cases c1 : gI h 26 i = 1
    · by_cases c2 : gI h 30 i = 0
      · simp only [if_pos c1, if_pos c2, Int32.add_assoc]
      · simp only [if_pos c1, if_neg c2, Int32.add_assoc]
    · simp only [if_neg c1, Int32.add_assoc]
theorem l_emptyM {h : HS} {N : Nat} (hN : N ≤ 15) (e : gI h 0 0 = nI N) : ∀ (k i : Nat), i + k = N → ∀ (n : Nat), k < n → ∀ s : Int32, fX12_days_39 n s (nI i) h = some (s + sR (fun i => if gI h 1 i = 1 then (if gI h 5 i = 0 then 1 else 0) else 0) i k, h) := by
  intro k
  induction k with
  | zero =>
    intro i hi n hn s
    obtain ⟨m, rfl⟩ := fuel1 hn
    rw [fX12_days_39, e, if_pos (nI_le (by omega) (by omega))]
    simp [sR]
  | succ k ih =>
    intro i hi n hn s
    obtain ⟨m, rfl⟩ := fuel1 hn
    rw [fX12_days_39, e, if_neg (nI_ge (by omega) (by omega))]
    unfold fX12_days_71 fX12_days_72
    simp only [inb_n (show i < 15 by omega) (by omega), ck_t, nm_e1, nI_clamp (show i < 2 ^ 31 by omega), nI_1, ih (i + 1) (by omega) m (by omega), sR]
    by_cases c1 : gI h 1 i = 1
    · by_cases c2 : gI h 5 i = 0
      · simp only [if_pos c1, if_pos c2, Int32.add_assoc]
      · simp only [if_pos c1, if_neg c2, Int32.add_assoc]
    · simp only [if_neg c1, Int32.add_assoc]
theorem nI_z0 {α : Type} (f : Int32 → α) : f 0 = f (nI 0) := by rw [nI_0]
theorem op_days {hc hm : HS} (H : RR hc hm) (p1 : Int32) : OK2 (fX11_days p1 hc) (fX12_days p1 hm) := by
  have H2 := RR_thrown 0 H
  simp only [fX11_days, fX12_days, nm_e1, f_between, f_in, bd_s, if10s]
  refine OK2_if (fun c1 => ?_) (fun _ => OK2_c H2)
  have r := rngI 0 400 c1
  obtain ⟨N, hN, ep⟩ : ∃ N, N ≤ 400 ∧ p1 = nI N := ⟨p1.toInt.toNat, by omega, i32_eqI (by omega)⟩
  subst ep
  have key : ∀ (k i : Nat) (hc hm : HS), RR hc hm → i + k = N → ∀ n, k < n → OK2 (fX11_days_15 n (nI N) (nI i) hc) (fX12_days_20 n (nI N) (nI i) hm) := by
    intro k
    induction k with
    | zero =>
      intro i hc hm H hi n hn
      obtain ⟨m, rfl⟩ := fuel1 hn
      have h15 := RR_15 H
      rw [fX11_days_15, fX12_days_20, if_pos (nI_le (by omega) (by omega)), if_pos (nI_le (by omega) (by omega))]
      unfold fX8_emptyOnes
      rw [nI_z0 (fun z => fX8_emptyOnes_4 FU 0 z hc), nI_z0 (fun z => fX12_days_39 FU 0 z hm)]
      rw [l_emptyC h15 (RR_eC H) (nLd hm) 0 (by omega) FU (FU_gt (by omega)), l_emptyM h15 (RR_eM H) (nLd hm) 0 (by omega) FU (FU_gt (by omega)), bd_s]
      have e : (fun i => if gI hc 26 i = 1 then (if gI hc 30 i = 0 then (1 : Int32) else 0) else 0) = (fun i => if gI hm 1 i = 1 then (if gI hm 5 i = 0 then 1 else 0) else 0) := by
        funext i
        rw [H.1.1.2.1 i, H.1.1.2.2.2.2.2 i]
      rw [e]
      exact OK2_c H
    | succ k ih =>
      intro i hc hm H hi n hn
      obtain ⟨m, rfl⟩ := fuel1 hn
      obtain ⟨r, hc', hm', a1, a2, a3, -⟩ := day_RR H
      rw [fX11_days_15, fX12_days_20, if_neg (nI_ge (by omega) (by omega)), if_neg (nI_ge (by omega) (by omega)), a1, a2, bd_s, bv_s, nm_e1, nm_e1, nI_1]
      exact ih (i + 1) hc' hm' a3 (by omega) m (by omega)
  rw [nI_z0 (fun z => fX11_days_15 FU (nI N) z hc), nI_z0 (fun z => fX12_days_20 FU (nI N) z (pI hm 0 22 0))]
  exact key N 0 hc (pI hm 0 22 0) H2 (by omega) FU (FU_gt (by omega))
end OPE
