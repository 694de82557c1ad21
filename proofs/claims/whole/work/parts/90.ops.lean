section DAY
/-- nothing is eaten -/
def NEi (hm : HS) (i : Nat) : Prop := ∀ j, i ≤ j → j < nLd hm → gI hm 1 j = 1 → imin (gI hm 30 j) (gI hm 5 j) ≤ 0
theorem NEi_cg {h h' : HS} {i : Nat} (e0 : gI h' 0 0 = gI h 0 0) (e1 : ∀ j, gI h' 1 j = gI h 1 j) (e30 : ∀ j, gI h' 30 j = gI h 30 j) (e5 : ∀ j, gI h' 5 j = gI h 5 j) : NEi h' i ↔ NEi h i := by
  unfold NEi
  rw [show nLd h' = nLd h by show (gI h' 0 0).toNatClampNeg = (gI h 0 0).toNatClampNeg; rw [e0], show gI h' 1 = gI h 1 from funext e1, show gI h' 30 = gI h 30 from funext e30, show gI h' 5 = gI h 5 from funext e5]
theorem day_loop2 : ∀ (k i : Nat) (hc hm : HS), RR hc hm → i + k = nLd hm → ∀ (n m : Nat), k < n → k < m → ∀ v1 : Int32, ∃ v hc' hm', fX8_goDay_4 n v1 (nI i) hc = some (vp_nar .boolean v, pI hc' 1 7 (gI hc' 1 7 + 1)) ∧ fX12_goBy_2 m (nI i) hm = some (pI hm' 0 16 (gI hm' 0 16 + 1)) ∧ RR hc' hm' ∧ onlyH hc hc' 30 ∧ onlyH hm hm' 5 ∧ (v = v1 ∨ v = 1) ∧ (NEi hm i → v = v1 ∧ ∀ k, gI hm' 5 k = gI hm 5 k) ∧ (v = 0 → v1 = 0 ∧ NEi hm i) := by
  intro k
  induction k with
  | zero =>
    intro i hc hm H hi n m hn hm1 v1
    have h15 := RR_15 H
    obtain ⟨n', rfl⟩ := fuel1 hn
    obtain ⟨m', rfl⟩ := fuel1 hm1
    refine ⟨v1, hc, hm, ?_, ?_, H, onlyH_r, onlyH_r, Or.inl rfl, fun _ => ⟨rfl, fun _ => rfl⟩, fun z => ⟨z, fun j h1 h2 => by omega⟩⟩
    · rw [fX8_goDay_4, RR_eC H, if_pos (nI_le (by omega) (by omega)), nm_e1]
    · rw [fX12_goBy_2, RR_eM H, if_pos (nI_le (by omega) (by omega)), nm_e1]
  | succ k ih =>
    intro i hc hm H hi n m hn hm1 v1
    have h15 := RR_15 H
    have hil : i < nLd hm := by omega
    obtain ⟨n', rfl⟩ := fuel1 hn
    obtain ⟨m', rfl⟩ := fuel1 hm1
    by_cases hk : gI hm 1 i = 1
    · obtain ⟨hc1, hm1', a1, a2, a3, a4, a5, a6⟩ := day_step H hil hk
      have e0 : nLd hm1' = nLd hm := by show (gI hm1' 0 0).toNatClampNeg = (gI hm 0 0).toNatClampNeg; rw [a5 0 0 (by decide)]
      obtain ⟨v, hc', hm', b1, b2, b3, b4, b5, b6, b7, b8⟩ := ih (i + 1) hc1 hm1' a3 (by omega) n' m' (by omega) (by omega) (if imin (gI hm 30 i) (gI hm 5 i) ≤ 0 then v1 else 1)
      have cg : imin (gI hm 30 i) (gI hm 5 i) ≤ 0 → (NEi hm1' (i + 1) ↔ NEi hm (i + 1)) := fun c => NEi_cg (a5 0 0 (by decide)) (fun j => a5 1 j (by decide)) (fun j => a5 30 j (by decide)) (a6 c)
      refine ⟨v, hc', hm', ?_, ?_, b3, onlyH_t a4 b4, onlyH_t a5 b5, ?_, fun z => ?_, fun z => ?_⟩
      · rw [fX8_goDay_4, RR_eC H, if_neg (nI_ge hil (by omega))]
        rw [inb_n (show i < 15 by omega) (by omega), ck_t, nI_clamp (by omega), H.1.1.2.1 i, hk, if_pos rfl]
        have := a1 (fX8_goDay_4 n') v1
        rw [inb_n (show i < 15 by omega) (by omega), ck_t, ck_t, nI_clamp (by omega)] at this
        rw [ck_t, ck_t, this]
        exact b1
      · rw [a2]
        exact b2
      · by_cases c : imin (gI hm 30 i) (gI hm 5 i) ≤ 0
        · rw [if_pos c] at b6; exact b6
        · rw [if_neg c] at b6; exact Or.inr (b6.elim id id)
      · have c := z i (Nat.le_refl i) hil hk
        rw [if_pos c] at b7
        obtain ⟨y1, y2⟩ := b7 ((cg c).mpr (fun j h1 h2 => z j (by omega) h2))
        exact ⟨y1, fun k => (y2 k).trans (a6 c k)⟩
      · obtain ⟨z1, z2⟩ := b8 z
        by_cases c : imin (gI hm 30 i) (gI hm 5 i) ≤ 0
        · rw [if_pos c] at z1
          refine ⟨z1, fun j h1 h2 h3 => ?_⟩
          by_cases y : j = i
          · subst y; exact c
          · exact (cg c).mp z2 j (by omega) h2 h3
        · rw [if_neg c] at z1
          exact absurd z1 (by decide)
    · obtain ⟨v, hc', hm', b1, b2, b3, b4, b5, b6, b7, b8⟩ := ih (i + 1) hc hm H (by omega) n' m' (by omega) (by omega) v1
      refine ⟨v, hc', hm', ?_, ?_, b3, b4, b5, b6, fun z => b7 (fun j h1 h2 => z j (by omega) h2), fun z => ?_⟩
      · rw [fX8_goDay_4, RR_eC H, if_neg (nI_ge hil (by omega)), inb_n (show i < 15 by omega) (by omega), ck_t, nI_clamp (by omega), H.1.1.2.1 i, if_neg hk]
        unfold fX8_goDay_50
        rw [if_pos (by decide), nm_e1, nI_1]
        exact b1
      · rw [fX12_goBy_2, RR_eM H, if_neg (nI_ge hil (by omega)), inb_n (show i < 15 by omega) (by omega), ck_t, nI_clamp (by omega), if_neg hk, nm_e1, nI_1]
        exact b2
      · obtain ⟨z1, z2⟩ := b8 z
        refine ⟨z1, fun j h1 h2 h3 => ?_⟩
        by_cases y : j = i
        · subst y; exact absurd h3 hk
        · exact z2 j (by omega) h2 h3
theorem day2 {hc hm : HS} (H : RR hc hm) : ∃ r hc' hm', fX8_goDay hc = some (r, hc') ∧ fX12_goBy hm = some hm' ∧ RR hc' hm' ∧ (r = 0 ∨ r = 1) ∧ (r = 0 → NEi hm 0) ∧ (NEi hm 0 → r = 0 ∧ ∀ k, gI hm' 5 k = gI hm 5 k) ∧ (∀ b j, ¬ b = 5 → ¬ (b = 0 ∧ j = 16) → gI hm' b j = gI hm b j) ∧ (∀ b j, ¬ b = 30 → ¬ (b = 1 ∧ j = 7) → gI hc' b j = gI hc b j) := by
  have h15 := RR_15 H
  obtain ⟨v, hc', hm', a1, a2, a3, a4, a5, a6, a7, a8⟩ := day_loop2 (nLd hm) 0 hc hm H (by omega) FU FU (FU_gt (by omega)) (FU_gt (by omega)) 0
  rw [nI_0] at a1 a2
  refine ⟨vp_nar .boolean v, pI hc' 1 7 (gI hc' 1 7 + 1), pI hm' 0 16 (gI hm' 0 16 + 1), a1, a2, ?_, vpn01 v, fun z => ?_, fun z => ?_, fun b j h1 h2 => ?_, fun b j h1 h2 => ?_⟩
  · refine RR_upB (cg_pI rfl cg_rf) (cg_pI rfl cg_rf) ?_ ?_ a3
    · have hb := a3.1.2.1
      simp only [RB] at hb
      simp [RB, gI_pI, gI_pIr, hb]
    · have hi := a3.2.1.2.1
      simp only [IB, VY, nLy] at hi
      simp [IB, VY, nLy, gI_pI, gI_pIr, hi]
      exact hi.2.2.2.2.2.2.1
  · have v0 : v = 0 := by
      rcases a6 with rfl | rfl
      · rfl
      · rw [nz1] at z; exact absurd z (by decide)
    exact (a8 v0).2
  · obtain ⟨y1, y2⟩ := a7 z
    refine ⟨by rw [y1, nz0], fun k => ?_⟩
    rw [gI_pI, if_neg (by omega)]
    exact y2 k
  · rw [gI_pI, if_neg h2]
    exact a5 b j h1
  · rw [gI_pI, if_neg h2]
    exact a4 b j h1
theorem pI_comm {h : HS} {a k b l : Nat} {v w : Int32} (hne : ¬ (a = b ∧ k = l)) : pI (pI h a k v) b l w = pI (pI h b l w) a k v := by
  unfold pI
  congr 1
  funext x y
  show (if x = b ∧ y = l then w else if x = a ∧ y = k then v else h.1 x y) = (if x = a ∧ y = k then v else if x = b ∧ y = l then w else h.1 x y)
  by_cases c1 : x = b ∧ y = l
  · rw [if_pos c1, if_neg (fun z => hne ⟨z.1.symm.trans c1.1, z.2.symm.trans c1.2⟩), if_pos c1]
  · rw [if_neg c1]
    by_cases c2 : x = a ∧ y = k
    · rw [if_pos c2, if_pos c2]
    · rw [if_neg c2, if_neg c2, if_neg c1]
theorem pI_self {h : HS} {a k : Nat} : pI h a k (gI h a k) = h := by
  unfold pI
  have : (fun x y => if x = a ∧ y = k then gI h a k else h.1 x y) = h.1 := by
    funext x y
    by_cases c : x = a ∧ y = k
    · rw [if_pos c, c.1, c.2]; rfl
    · rw [if_neg c]
  rw [this]
/-- what is put by is no matter of a day -/
theorem goBy_comm (v : Int32) : ∀ (n : Nat) (i : Int32) (h : HS), fX12_goBy_2 n i (pI h 0 24 v) = (fX12_goBy_2 n i h).map (fun h' => pI h' 0 24 v) := by
  intro n
  induction n with
  | zero => intro i h; rfl
  | succ n ih =>
    intro i h
    have g : ∀ b j, ¬ (b = 0 ∧ j = 24) → gI (pI h 0 24 v) b j = gI h b j := fun b j z => by rw [gI_pI, if_neg z]
    have mp : ∀ (b : Bool) (o : Option HS), ck b (o.map (fun h' => pI h' 0 24 v)) = (ck b o).map (fun h' => pI h' 0 24 v) := fun b o => by cases b <;> rfl
    rw [fX12_goBy_2, fX12_goBy_2, g 0 0 (by decide)]
    by_cases c1 : gI h 0 0 ≤ i
    · rw [if_pos c1, if_pos c1, nm_e1, nm_e1, g 0 16 (by decide), pI_comm (by decide)]
      rfl
    · rw [if_neg c1, if_neg c1, g 1 _ (by omega)]
      by_cases c2 : gI h 1 i.toNatClampNeg = 1
      · rw [if_pos c2, if_pos c2]
        simp only [nm_e1, g 30 _ (show ¬ (30 = 0 ∧ i.toNatClampNeg = 24) by omega), g 5 _ (show ¬ (5 = 0 ∧ i.toNatClampNeg = 24) by omega)]
        rw [pI_comm (show ¬ (0 = 5 ∧ 24 = i.toNatClampNeg) by omega)]
        generalize pI h 5 i.toNatClampNeg (gI h 5 i.toNatClampNeg - imin (gI h 30 i.toNatClampNeg) (gI h 5 i.toNatClampNeg)) = h9
        have g9 : ∀ b j, ¬ (b = 0 ∧ j = 24) → gI (pI h9 0 24 v) b j = gI h9 b j := fun b j z => by rw [gI_pI, if_neg z]
        rw [g9 32 _ (by omega)]
        by_cases c3 : gI h9 32 i.toNatClampNeg = -1
        · rw [if_pos c3, if_pos c3, ih]
          simp only [mp]
        · rw [if_neg c3, if_neg c3]
          unfold fX12_roomOf
          by_cases c4 : inb (gI h9 32 i.toNatClampNeg) 15 = true
          · simp only [c4, ck_t, bd_s, g9 4 _ (show ¬ (4 = 0 ∧ (gI h9 32 i.toNatClampNeg).toNatClampNeg = 24) by omega), g9 5 _ (show ¬ (5 = 0 ∧ (gI h9 32 i.toNatClampNeg).toNatClampNeg = 24) by omega), g9 31 _ (show ¬ (31 = 0 ∧ i.toNatClampNeg = 24) by omega)]
            rw [pI_comm (show ¬ (0 = 5 ∧ 24 = (gI h9 32 i.toNatClampNeg).toNatClampNeg) by omega), ih]
            simp only [mp]
          · have c4' : inb (gI h9 32 i.toNatClampNeg) 15 = false := by simpa using c4
            simp only [c4', ck_f]
            have : ∀ b : Bool, ck b (none : Option HS) = none := fun b => by cases b <;> rfl
            simp only [this]
            rfl
      · rw [if_neg c2, if_neg c2, nm_e1, nm_e1, ih, mp]
/-- a day on both sides, whatever is put by -/
theorem day3 {hc h : HS} (H : RR hc (pI h 0 24 0)) : ∃ r hc' h', fX8_goDay hc = some (r, hc') ∧ fX12_goBy h = some h' ∧ RR hc' (pI h' 0 24 0) ∧ (r = 0 ∨ r = 1) ∧ (r = 0 → NEi h 0) ∧ (NEi h 0 → r = 0 ∧ ∀ k, gI h' 5 k = gI h 5 k) ∧ (∀ b j, ¬ b = 5 → ¬ (b = 0 ∧ j = 16) → gI h' b j = gI h b j) ∧ (∀ b j, ¬ b = 30 → ¬ (b = 1 ∧ j = 7) → gI hc' b j = gI hc b j) := by
  obtain ⟨r, hc', g', a1, a2, a3, a4, a5, a6, a7, a8⟩ := day2 H
  unfold fX12_goBy at a2
  have c1 := goBy_comm 0 FU 0 h
  rw [a2] at c1
  cases hh : fX12_goBy_2 FU 0 h with
  | none => rw [hh] at c1; cases c1
  | some h' =>
    rw [hh] at c1
    have e : g' = pI h' 0 24 0 := by cases c1; rfl
    have c2 := goBy_comm (gI h 0 24) FU 0 h
    rw [pI_self, hh] at c2
    have e2 : h' = pI h' 0 24 (gI h 0 24) := by simpa using c2
    have e24 : gI h' 0 24 = gI h 0 24 := by
      have := congrArg (fun z => gI z 0 24) e2
      simpa [gI_pI] using this
    have ex : ∀ x : HS, ∀ b j, ¬ (b = 0 ∧ j = 24) → gI (pI x 0 24 0) b j = gI x b j := fun x b j z => by rw [gI_pI, if_neg z]
    have ne : NEi (pI h 0 24 0) 0 ↔ NEi h 0 := NEi_cg (ex h 0 0 (by decide)) (fun j => ex h 1 j (by omega)) (fun j => ex h 30 j (by omega)) (fun j => ex h 5 j (by omega))
    rw [ne] at a5 a6
    subst e
    refine ⟨r, hc', h', a1, hh, a3, a4, a5, fun z => ⟨(a6 z).1, fun k => ?_⟩, fun b j z1 z2 => ?_, a8⟩
    · have := (a6 z).2 k
      rw [ex h' 5 k (by omega), ex h 5 k (by omega)] at this
      exact this
    · by_cases z : b = 0 ∧ j = 24
      · rw [z.1, z.2]; exact e24
      · have := a7 b j z1 z2
        rw [ex h' b j z, ex h b j z] at this
        exact this
end DAY
section REX
variable {hc hm : HS}
theorem RR_exR {hm' : HS} (s : exR hm hm') (H : RR hc hm) : RR hc hm' := RR_cg cg_rf (fun b j q => s b j (by rintro rfl; cases q) (by rintro ⟨rfl, rfl | rfl | rfl⟩ <;> cases q)) H
theorem RR_1 {hc' : HS} (s : hc'.1 = hc.1) (H : RR hc hm) : RR hc' hm := RR_cg (fun b j _ => by unfold gI; rw [s]) cg_rf H
theorem op_reach (H : RR hc hm) (p1 : Int32) : OK2 (fX11_reach p1 hc) (fX12_reach p1 hm) := by
  have H2 := RR_thrown 0 H
  simp only [fX11_reach, fX12_reach, nm_e1, f_isDepthC, f_isDepthM, bd_s, if10s]
  refine OK2_if (fun hd => ?_) (fun _ => OK2_c H2)
  generalize pI hm 0 22 0 = h0 at *
  obtain ⟨hcA, R, a1, a2, a3⟩ := e_find H2 hd
  obtain ⟨hmA, R', b1, b2, b3⟩ := e_canM H2.2.1.1 H2.2.1.2.1 hd
  have HA : RR hcA hmA := RR_exR b2 (RR_1 a2 H2)
  obtain ⟨r1, r2, r3⟩ := row0 HA
  rw [a1, bd_s, b1, bd_s]
  unfold fX11_reach_65 fX12_reach_45
  rw [r1, bv_s]
  rcases a3 with ⟨rfl, n1⟩ | ⟨rfl, i1, i2, i3⟩
  · rcases b3 with ⟨rfl, -⟩ | ⟨rfl, lo, hi, -, -, j1, -⟩
    · rw [if_pos rfl, if_pos rfl, if_pos rfl, if_pos rfl]
      exact OK2_c r2
    · exact absurd j1 (n1 _)
  · rcases b3 with ⟨rfl, n2⟩ | ⟨rfl, lo, hi, e46, e47, j1, j2, j3⟩
    · exact absurd i1 (n2 _)
    · have q1 := i3 _ j1
      have q2 := i3 _ j2
      have q3 := j3 _ i1
      have q4 := j3 _ i2
      obtain ⟨t15, tr⟩ := tank_rng H2.2.1.1
      have aL := allL_rng (m := fun j => (gI h0 4 j).toInt) (L := tanksM h0) (fun j hj => (tr j hj).2.2.2.1)
      have z1 := j1.1
      have z2 := j2.1
      have e0 : (gL hcA 11 0).toInt32 = nI lo := i32_eqI (by rw [Jvm.Kit.i32_of_i64 (by omega) (by omega)]; omega)
      have e1 : (gL hcA 11 1).toInt32 = nI hi := i32_eqI (by rw [Jvm.Kit.i32_of_i64 (by omega) (by omega)]; omega)
      obtain ⟨hc1, hc2, hc3, hm2, hm3, t1, t2, t3, t4, t5, t6, -, -, t8⟩ := tell2 HA (nI lo) (nI hi)
      have hc1e : hc1 = pI hcA 4 1 0 := by rw [r1] at t1; exact (Option.some.inj t1).symm
      subst hc1e
      rw [if_neg (by decide), if_neg (by decide), gL_pI, e0, t2, bv_s]
      have gl : gL hc2 11 1 = gL hcA 11 1 := by
        obtain ⟨u1, -, -, -⟩ := row1 r2 r3 (by omega) (nI lo)
        rw [u1] at t2
        cases t2
        rfl
      rw [gl, e1, t3, bv_s, if_neg (by decide), gI_pI, if_neg (by decide), e46, t4, bv_s, (t8 0 47 (by decide) (by decide)).1, e47, t5, bv_s, if_neg (by decide)]
      exact OK2_c t6
end REX
