section REC
variable {hc hm : HS}
theorem l_hold4 {h : HS} {L : List Nat} (h15 : L.length ≤ 15) (e7 : gI h 2 7 = nI L.length) (hL : ∀ j ∈ L, j < 15) (hh : holdsL h L) : ∀ (suf pre : List Nat) (v : Int32), L = pre ++ suf → ∀ n, suf.length < n → fX4_tanksHold_4 n v (nI pre.length) h = some (v + sumL (gI h 30) suf, h) ∧ fX4_tanksMoment_4 n v (nI pre.length) h = some (v + sumL (fun j => gI h 27 j * gI h 30 j) suf, h) := by
  intro suf
  induction suf with
  | nil =>
    intro pre v hp n hn
    obtain ⟨m, rfl⟩ := fuel1 hn
    rw [List.append_nil] at hp
    rw [fX4_tanksHold_4, fX4_tanksMoment_4, e7, if_pos (nI_le (by rw [← hp]; omega) (by rw [← hp]; omega)), if_pos (nI_le (by rw [← hp]; omega) (by rw [← hp]; omega))]
    simp only [sumL, Int32.add_zero, and_self]
  | cons j r ih =>
    intro pre v hp n hn
    obtain ⟨m, rfl⟩ := fuel1 hn
    have hpl : pre.length < L.length := by rw [hp, List.length_append, List.length_cons]; omega
    have eg := hh pre.length j (by rw [hp, List.getElem?_append_right (Nat.le_refl _), Nat.sub_self]; rfl)
    have j15 := hL j (by rw [hp]; exact List.mem_append_right _ List.mem_cons_self)
    rw [List.length_cons] at hn
    have hpl2 : (pre ++ [j]).length = pre.length + 1 := by rw [List.length_append]; rfl
    have R1 := (ih (pre ++ [j]) (v + gI h 30 j) (by rw [hp, List.append_assoc]; rfl) m (by omega)).1
    have R2 := (ih (pre ++ [j]) (v + gI h 27 j * gI h 30 j) (by rw [hp, List.append_assoc]; rfl) m (by omega)).2
    rw [hpl2] at R1 R2
    rw [fX4_tanksHold_4, fX4_tanksMoment_4, e7, if_neg (nI_ge hpl (by omega)), if_neg (nI_ge hpl (by omega))]
    simp only [inb_n (show pre.length < 15 by omega) (by omega), ck_t, nI_clamp (show pre.length < 2 ^ 31 by omega), eg, inb_n j15 (show 15 < 2 ^ 31 by omega), nI_clamp (show j < 2 ^ 31 by omega), nm_e1, nI_1, R1, R2, sumL, Int32.add_assoc, and_self]
def okK (hm : HS) (L : List Nat) (M l u s : Int) : Prop := l ≤ M + mwL (fun j => (gI hm 2 j).toInt) (fun j => (gI hm 4 j).toInt) L s ∧ M + mwL (fun j => (gI hm 2 j).toInt) (fun j => (gI hm 4 j).toInt) L s ≤ u
def ivK (hm : HS) (L : List Nat) (M l u : Int) (pre : List Nat) (lo hi : Int64) : Prop := (∀ s, 0 ≤ s → s ≤ allL (fun j => (gI hm 4 j).toInt) pre → okK hm L M l u s → lo.toInt ≤ s ∧ s ≤ hi.toInt) ∧ ((lo.toInt = 1099511627776 ∧ hi.toInt = -1099511627776) ∨ ((0 ≤ lo.toInt ∧ lo.toInt ≤ allL (fun j => (gI hm 4 j).toInt) pre ∧ okK hm L M l u lo.toInt) ∧ (0 ≤ hi.toInt ∧ hi.toInt ≤ allL (fun j => (gI hm 4 j).toInt) pre ∧ okK hm L M l u hi.toInt)))
theorem l_keep41 (H : RR hc hm) {v2 : Int32} {L : List Nat} {σ : Nat → Nat} (h15 : L.length ≤ 15) (e7 : gI hc 2 7 = nI L.length) (hσ : ∀ i, i < L.length → σ i < 15 ∧ (if v2 = 0 then (nI L.length - 1) - nI i else nI i) = nI (σ i)) (hg : ∀ i j, L[i]? = some j → gI hc 32 (σ i) = nI j) (tr : ∀ j ∈ L, j < 15 ∧ (-99 ≤ (gI hm 2 j).toInt ∧ (gI hm 2 j).toInt ≤ 99) ∧ (0 ≤ (gI hm 4 j).toInt ∧ (gI hm 4 j).toInt ≤ 999)) {l u : Int64} (hl : sm50 l) (hu : sm50 u) {M : Int} (hM : -4000000 ≤ M ∧ M ≤ 4000000) :
    ∀ (suf pre : List Nat) (h : HS) (mom lo hi sum : Int64), L = pre ++ suf → h.1 = hc.1 → mom.toInt = M + momL (fun j => (gI hm 2 j).toInt) (fun j => (gI hm 4 j).toInt) pre → sum.toInt = allL (fun j => (gI hm 4 j).toInt) pre → ivK hm L M l.toInt u.toInt pre lo hi → ∀ n, suf.length < n → ∃ h' LO HI, fX0_keepSums_41 n v2 l u mom lo hi sum (nI pre.length) h = bv (fX7_narrow 11 0 1 LO HI h') (fun h5 => some h5) ∧ onlyS h h' 12 ∧ ivK hm L M l.toInt u.toInt L LO HI := by
  intro suf
  induction suf with
  | nil =>
    intro pre h mom lo hi sum hp hI hmom hsum iv n hn
    obtain ⟨m, rfl⟩ := fuel1 hn
    rw [List.append_nil] at hp
    subst hp
    have gh : ∀ b j, gI h b j = gI hc b j := fun b j => by unfold gI; rw [hI]
    refine ⟨h, lo, hi, ?_, onlyS_r, iv⟩
    rw [fX0_keepSums_41, gh, e7, if_pos (nI_le (by omega) (by omega))]
  | cons j r ih =>
    intro pre h mom lo hi sum hp hI hmom hsum iv n hn
    obtain ⟨n', rfl⟩ := fuel1 hn
    have gh : ∀ b j, gI h b j = gI hc b j := fun b j => by unfold gI; rw [hI]
    have hpl : pre.length < L.length := by rw [hp, List.length_append, List.length_cons]; omega
    have eg := hg pre.length j (by rw [hp, List.getElem?_append_right (Nat.le_refl _), Nat.sub_self]; rfl)
    obtain ⟨j15, jx, jm⟩ := tr j (by rw [hp]; exact List.mem_append_right _ List.mem_cons_self)
    obtain ⟨s1, s2⟩ := hσ pre.length hpl
    rw [List.length_cons] at hn
    have hpre : ∀ k ∈ pre, k ∈ L := fun k hk => by rw [hp]; exact List.mem_append_left _ hk
    have rmo := momL_rng (x := fun j => (gI hm 2 j).toInt) (m := fun j => (gI hm 4 j).toInt) (L := pre) (fun k hk => (tr k (hpre k hk)).2.1) (fun k hk => (tr k (hpre k hk)).2.2)
    have ral := allL_rng (m := fun j => (gI hm 4 j).toInt) (L := pre) (fun k hk => (tr k (hpre k hk)).2.2)
    have e29 : gI hc 29 j = gI hm 4 j := H.1.1.2.2.2.2.1 j
    have e27 : gI hc 27 j = gI hm 2 j := H.1.1.2.2.1 j
    obtain ⟨h1, a1, a2, a3, a4⟩ := e_reset h 12 0 (gI hm 4 j).toInt64
    have bd1 : bdS h1 12 := by unfold bdS; rw [a3, a4, z64, (i64_small _).2]; omega
    obtain ⟨h2, b1, b2, b3, b4⟩ := e_narrow (h := h1) (a := 12) (s := mom) (st := (gI hm 2 j).toInt64) (l := l) (m := u) (by unfold sm50; omega) (i64_small _).1 hl hu bd1
    have o2 := onlyS_t a2 b2
    have g2 : ∀ b j, gI h2 b j = gI hc b j := fun b j => (onlyS_I o2 b j).trans (gh b j)
    have g1 : ∀ b j, gI h1 b j = gI hc b j := fun b j => (onlyS_I a2 b j).trans (gh b j)
    -- this tank's part
    have mn : ∀ k ∈ pre, 0 ≤ (gI hm 4 k).toInt := fun k hk => ((tr k (hpre k hk)).2.2).1
    have mr : ∀ k ∈ r, 0 ≤ (gI hm 4 k).toInt := fun k hk => ((tr k (by rw [hp]; exact List.mem_append_right _ (List.mem_cons_of_mem _ hk))).2.2).1
    have fk : ∀ k, 0 ≤ k → k ≤ (gI hm 4 j).toInt → M + mwL (fun j => (gI hm 2 j).toInt) (fun j => (gI hm 4 j).toInt) L (sum.toInt + k) = mom.toInt + (gI hm 2 j).toInt * k := fun k k0 k1 => by
      rw [hsum, hp, mw_app mn k0, mwL, show min k (gI hm 4 j).toInt = k by omega, Int.sub_self, mw_0 mr, hmom]
      omega
    have iffk : ∀ k, inS h2 12 k ↔ (0 ≤ k ∧ k ≤ (gI hm 4 j).toInt) ∧ okK hm L M l.toInt u.toInt (sum.toInt + k) := fun k => by
      rw [b4 k]
      have : inS h1 12 k ↔ 0 ≤ k ∧ k ≤ (gI hm 4 j).toInt := by unfold inS; rw [a3, a4, z64, (i64_small _).2]
      rw [this, (i64_small _).2]
      unfold okK
      constructor
      · rintro ⟨z1, z2, z3⟩
        rw [fk k z1.1 z1.2]
        exact ⟨z1, z2, z3⟩
      · rintro ⟨z1, z2⟩
        rw [fk k z1.1 z1.2] at z2
        exact ⟨z1, z2.1, z2.2⟩
    have k1 : (1 : Int64).toInt = 1 := by decide +kernel
    have hpl2 : (pre ++ [j]).length = pre.length + 1 := by rw [List.length_append]; rfl
    have eal : allL (fun j => (gI hm 4 j).toInt) (pre ++ [j]) = allL (fun j => (gI hm 4 j).toInt) pre + (gI hm 4 j).toInt := by rw [allL_app, allL, allL, Int.add_zero]
    have emo : momL (fun j => (gI hm 2 j).toInt) (fun j => (gI hm 4 j).toInt) (pre ++ [j]) = momL (fun j => (gI hm 2 j).toInt) (fun j => (gI hm 4 j).toInt) pre + (gI hm 2 j).toInt * (gI hm 4 j).toInt := by rw [momL_app, momL, momL, Int.add_zero]
    have sum' : (sum + (gI hm 4 j).toInt64).toInt = allL (fun j => (gI hm 4 j).toInt) (pre ++ [j]) := by rw [Jvm.Kit.i64_add (by rw [(i64_small _).2]; omega) (by rw [(i64_small _).2]; omega), (i64_small _).2, hsum, eal]
    have pb : ((gI hm 2 j).toInt * (gI hm 4 j).toInt).natAbs ≤ 99 * 999 := by
      rw [Int.natAbs_mul]
      exact Nat.mul_le_mul (by omega) (by omega)
    have pm : ((gI hm 2 j).toInt64 * (gI hm 4 j).toInt64).toInt = (gI hm 2 j).toInt * (gI hm 4 j).toInt := by rw [Jvm.Kit.i64_mul (by rw [(i64_small _).2, (i64_small _).2]; omega) (by rw [(i64_small _).2, (i64_small _).2]; omega), (i64_small _).2, (i64_small _).2]
    have mom' : (mom + (gI hm 2 j).toInt64 * (gI hm 4 j).toInt64).toInt = M + momL (fun j => (gI hm 2 j).toInt) (fun j => (gI hm 4 j).toInt) (pre ++ [j]) := by rw [Jvm.Kit.i64_add (by rw [pm]; omega) (by rw [pm]; omega), pm, emo, hmom]; omega
    have next : ∀ lo' hi' : Int64, ivK hm L M l.toInt u.toInt (pre ++ [j]) lo' hi' → ∃ h' LO HI, fX0_keepSums_170 (fX0_keepSums_41 n') v2 l u mom lo' hi' sum (nI pre.length) (nI j) h2 = bv (fX7_narrow 11 0 1 LO HI h') (fun h5 => some h5) ∧ onlyS h h' 12 ∧ ivK hm L M l.toInt u.toInt L LO HI := by
      intro lo' hi' iv'
      obtain ⟨h', LO, HI, c1, c2, c3⟩ := ih (pre ++ [j]) h2 (mom + (gI hm 2 j).toInt64 * (gI hm 4 j).toInt64) lo' hi' (sum + (gI hm 4 j).toInt64) (by rw [hp, List.append_assoc]; rfl) (o2.1.trans hI) mom' sum' iv' n' (by omega)
      refine ⟨h', LO, HI, ?_, onlyS_t o2 c2, c3⟩
      rw [hpl2] at c1
      unfold fX0_keepSums_170
      simp only [inb_n j15 (show 15 < 2 ^ 31 by omega), ck_t, nI_clamp (show j < 2 ^ 31 by omega), g2, e29, e27, nm_e1, nI_1]
      exact c1
    have go : ∃ h' LO HI, fX0_keepSums_81 (fX0_keepSums_41 n') v2 l u mom lo hi sum (nI pre.length) (nI (σ pre.length)) h = bv (fX7_narrow 11 0 1 LO HI h') (fun h5 => some h5) ∧ onlyS h h' 12 ∧ ivK hm L M l.toInt u.toInt L LO HI := by
      unfold fX0_keepSums_81 fX7_isEmpty
      simp only [inb_n s1 (show 15 < 2 ^ 31 by omega), ck_t, nI_clamp (show σ pre.length < 2 ^ 31 by omega), gh, eg, nm_e1, inb_n j15 (show 15 < 2 ^ 31 by omega), nI_clamp (show j < 2 ^ 31 by omega), e29, a1, bv_s, g1, e27, b1]
      obtain ⟨iv1, iv2⟩ := iv
      by_cases c : gL h2 12 0 ≤ gL h2 12 1
      · rw [if_pos ((lg_cmp_le _ _).mpr c), bd_s, if_pos rfl]
        have c' := Int64.le_iff_toInt_le.mp c
        obtain ⟨p1, p2⟩ := (iffk (gL h2 12 0).toInt).mp ⟨by omega, by omega⟩
        obtain ⟨p3, p4⟩ := (iffk (gL h2 12 1).toInt).mp ⟨by omega, by omega⟩
        have t1 : (sum + gL h2 12 0).toInt = sum.toInt + (gL h2 12 0).toInt := Jvm.Kit.i64_add (by omega) (by omega)
        have t2 : (sum + gL h2 12 1).toInt = sum.toInt + (gL h2 12 1).toInt := Jvm.Kit.i64_add (by omega) (by omega)
        have m1 := lmin_i lo (sum + gL h2 12 0)
        have m2 := lmax_i hi (sum + gL h2 12 1)
        refine next _ _ ⟨fun s h0 h1 h3 => ?_, Or.inr ?_⟩
        · by_cases z : s ≤ allL (fun j => (gI hm 4 j).toInt) pre
          · have := iv1 s h0 z h3
            omega
          · have hs : s = sum.toInt + (s - sum.toInt) := by omega
            have : inS h2 12 (s - sum.toInt) := (iffk _).mpr ⟨by omega, by rw [← hs]; exact h3⟩
            unfold inS at this
            omega
        · rcases iv2 with ⟨y1, y2⟩ | ⟨⟨y1, y2, y3⟩, y4, y5, y6⟩
          · rw [m1, m2, t1, t2, show min lo.toInt (sum.toInt + (gL h2 12 0).toInt) = sum.toInt + (gL h2 12 0).toInt by omega, show max hi.toInt (sum.toInt + (gL h2 12 1).toInt) = sum.toInt + (gL h2 12 1).toInt by omega]
            exact ⟨⟨by omega, by omega, p2⟩, by omega, by omega, p4⟩
          · rw [m1, m2, t1, t2]
            refine ⟨⟨by omega, by omega, ?_⟩, by omega, by omega, ?_⟩
            · by_cases z : lo.toInt ≤ sum.toInt + (gL h2 12 0).toInt
              · rw [show min lo.toInt (sum.toInt + (gL h2 12 0).toInt) = lo.toInt by omega]; exact y3
              · rw [show min lo.toInt (sum.toInt + (gL h2 12 0).toInt) = sum.toInt + (gL h2 12 0).toInt by omega]; exact p2
            · by_cases z : sum.toInt + (gL h2 12 1).toInt ≤ hi.toInt
              · rw [show max hi.toInt (sum.toInt + (gL h2 12 1).toInt) = hi.toInt by omega]; exact y6
              · rw [show max hi.toInt (sum.toInt + (gL h2 12 1).toInt) = sum.toInt + (gL h2 12 1).toInt by omega]; exact p4
      · rw [if_neg (fun z => c ((lg_cmp_le _ _).mp z)), bd_s, if_neg (by decide)]
        have c' : ¬ (gL h2 12 0).toInt ≤ (gL h2 12 1).toInt := fun z => c (Int64.le_iff_toInt_le.mpr z)
        refine next _ _ ⟨fun s h0 h1 h3 => ?_, ?_⟩
        · by_cases z : s ≤ allL (fun j => (gI hm 4 j).toInt) pre
          · exact iv1 s h0 z h3
          · have hs : s = sum.toInt + (s - sum.toInt) := by omega
            have : inS h2 12 (s - sum.toInt) := (iffk _).mpr ⟨by omega, by rw [← hs]; exact h3⟩
            unfold inS at this
            omega
        · rcases iv2 with y | ⟨⟨y1, y2, y3⟩, y4, y5, y6⟩
          · exact Or.inl y
          · exact Or.inr ⟨⟨y1, by omega, y3⟩, y4, by omega, y6⟩
    rw [fX0_keepSums_41, gh, e7, if_neg (nI_ge hpl (by omega))]
    by_cases cv : v2 = 0
    · rw [if_pos cv] at s2
      rw [if_pos cv, s2]
      exact go
    · rw [if_neg cv] at s2
      rw [if_neg cv]
      rw [← s2] at go
      exact go
theorem far_i : (1099511627776 : Int64).toInt = 1099511627776 ∧ (-1099511627776 : Int64).toInt = -1099511627776 := ⟨by decide +kernel, by decide +kernel⟩
theorem e_keepS (H : RR hc hm) {v2 : Int32} {L : List Nat} {σ : Nat → Nat} (h15 : L.length ≤ 15) (e7 : gI hc 2 7 = nI L.length) (hσ : ∀ i, i < L.length → σ i < 15 ∧ (if v2 = 0 then (nI L.length - 1) - nI i else nI i) = nI (σ i)) (hg : ∀ i j, L[i]? = some j → gI hc 32 (σ i) = nI j) (tr : ∀ j ∈ L, j < 15 ∧ (-99 ≤ (gI hm 2 j).toInt ∧ (gI hm 2 j).toInt ≤ 99) ∧ (0 ≤ (gI hm 4 j).toInt ∧ (gI hm 4 j).toInt ≤ 999)) {l u : Int64} (hl : sm50 l) (hu : sm50 u) {M : Int32} (hM : -4000000 ≤ M.toInt ∧ M.toInt ≤ 4000000) (qc : ∀ a s b, 0 ≤ a → a ≤ s → s ≤ b → okK hm L M.toInt l.toInt u.toInt a → okK hm L M.toInt l.toInt u.toInt b → okK hm L M.toInt l.toInt u.toInt s) (hbd : bdS hc 11) :
    ∃ h', fX0_keepSums M v2 l u hc = some h' ∧ h'.1 = hc.1 ∧ bdS h' 11 ∧ ∀ k, inS h' 11 k ↔ inS hc 11 k ∧ (0 ≤ k ∧ k ≤ allL (fun j => (gI hm 4 j).toInt) L) ∧ okK hm L M.toInt l.toInt u.toInt k := by
  have tM := (i64_small M).2
  have k1 : (1 : Int64).toInt = 1 := by decide +kernel
  have mL : ∀ j ∈ L, 0 ≤ (gI hm 4 j).toInt := fun j hj => ((tr j hj).2.2).1
  have aL := allL_rng (m := fun j => (gI hm 4 j).toInt) (L := L) (fun j hj => (tr j hj).2.2)
  have ok0 : okK hm L M.toInt l.toInt u.toInt 0 ↔ l.toInt ≤ M.toInt ∧ M.toInt ≤ u.toInt := by unfold okK; rw [mw_0 mL, Int.add_zero]
  have fin : ∀ lo hi : Int64, ivK hm L M.toInt l.toInt u.toInt [] lo hi → ∃ h', fX0_keepSums_35 v2 l u M.toInt64 lo hi hc = some h' ∧ h'.1 = hc.1 ∧ bdS h' 11 ∧ ∀ k, inS h' 11 k ↔ inS hc 11 k ∧ (0 ≤ k ∧ k ≤ allL (fun j => (gI hm 4 j).toInt) L) ∧ okK hm L M.toInt l.toInt u.toInt k := by
    intro lo hi iv
    obtain ⟨h1, LO, HI, a1, a2, a3⟩ := l_keep41 H h15 e7 hσ hg tr hl hu hM L [] hc M.toInt64 lo hi 0 rfl rfl (by rw [tM, momL, Int.add_zero]) (by rw [z64, allL]) iv FU (FU_gt (by omega))
    obtain ⟨b1, b2⟩ := a3
    have bd1 : bdS h1 11 := by unfold bdS at *; rw [a2.2.2 11 0 (by decide), a2.2.2 11 1 (by decide)]; exact hbd
    have sLO : sm50 LO := by unfold sm50; rcases b2 with ⟨y1, y2⟩ | ⟨⟨y1, y2, y3⟩, y4, y5, y6⟩ <;> omega
    have sHI : sm50 HI := by unfold sm50; rcases b2 with ⟨y1, y2⟩ | ⟨⟨y1, y2, y3⟩, y4, y5, y6⟩ <;> omega
    obtain ⟨h2, c1, c2, c3, c4⟩ := e_narrow (h := h1) (a := 11) (s := 0) (st := 1) (l := LO) (m := HI) (by unfold sm50; rw [z64]; omega) (by unfold sm50; rw [k1]; omega) sLO sHI bd1
    rw [show nI ([] : List Nat).length = 0 from nI_0] at a1
    unfold fX0_keepSums_35
    rw [a1, c1, bv_s]
    refine ⟨h2, rfl, c2.1.trans a2.1, c3, fun k => ?_⟩
    have i1 : inS h1 11 k ↔ inS hc 11 k := by unfold inS; rw [a2.2.2 11 0 (by decide), a2.2.2 11 1 (by decide)]
    rw [c4 k, i1, z64, k1, Int.one_mul, Int.zero_add]
    constructor
    · rintro ⟨z1, z2, z3⟩
      rcases b2 with ⟨y1, y2⟩ | ⟨⟨y1, y2, y3⟩, y4, y5, y6⟩
      · omega
      · exact ⟨z1, by omega, qc _ _ _ y1 z2 z3 y3 y6⟩
    · rintro ⟨z1, z2, z3⟩
      have := b1 k z2.1 z2.2 z3
      exact ⟨z1, this.1, this.2⟩
  have none : ¬ okK hm L M.toInt l.toInt u.toInt 0 → ivK hm L M.toInt l.toInt u.toInt [] 1099511627776 (-1099511627776) := fun no => ⟨fun s h0 h1 h2 => by
    rw [allL] at h1
    rw [show s = 0 by omega] at h2
    exact absurd h2 no, Or.inl far_i⟩
  unfold fX0_keepSums
  rw [nm_e1]
  by_cases c1 : M.toInt64 < l
  · rw [if_pos ((lg_cmp_lt _ _).mpr c1)]
    have := Int64.lt_iff_toInt_lt.mp c1
    exact fin _ _ (none (fun z => by have := ok0.mp z; omega))
  · rw [if_neg (fun z => c1 ((lg_cmp_lt _ _).mp z))]
    have c1' : ¬ M.toInt64.toInt < l.toInt := fun z => c1 (Int64.lt_iff_toInt_lt.mpr z)
    by_cases c2 : u < M.toInt64
    · rw [if_pos ((lg_cmp_gt _ _).mpr c2)]
      have := Int64.lt_iff_toInt_lt.mp c2
      exact fin _ _ (none (fun z => by have := ok0.mp z; omega))
    · rw [if_neg (fun z => c2 ((lg_cmp_gt _ _).mp z))]
      have c2' : ¬ u.toInt < M.toInt64.toInt := fun z => c2 (Int64.lt_iff_toInt_lt.mpr z)
      have o0 := ok0.mpr ⟨by omega, by omega⟩
      refine fin _ _ ⟨fun s h0 h1 h2 => ?_, Or.inr ⟨⟨?_, ?_, ?_⟩, ?_, ?_, ?_⟩⟩
      · rw [allL] at h1; rw [z64]; omega
      · rw [z64]; omega
      · rw [z64, allL]; omega
      · rw [z64]; exact o0
      · rw [z64]; omega
      · rw [z64, allL]; omega
      · rw [z64]; exact o0
theorem allL_rev {m : Nat → Int} : ∀ {L : List Nat}, allL m L.reverse = allL m L
  | [] => rfl
  | j :: r => by rw [List.reverse_cons, allL_app, allL_rev, allL, allL, allL]; omega
/-- the class's findSums -/
theorem e_find (H : RR hc hm) {d : Int32} (hd : 0 ≤ d ∧ d ≤ 600) : ∃ h' R, fX0_findSums d hc = some (R, h') ∧ h'.1 = hc.1 ∧ ((R = 0 ∧ ∀ s, ¬ InR hm d s) ∨ (R = 1 ∧ InR hm d (gL h' 11 0).toInt ∧ InR hm d (gL h' 11 1).toInt ∧ ∀ s, InR hm d s → (gL h' 11 0).toInt ≤ s ∧ s ≤ (gL h' 11 1).toInt)) := by
  have I := H.2.1.1
  have J := H.2.1.2.1
  obtain ⟨A1, A2, A3, A4⟩ := RR_hold H
  obtain ⟨t15, tr⟩ := tank_rng I
  obtain ⟨s0, s1, -⟩ := sl_rng J
  obtain ⟨v3r, v4r⟩ := rV_rng I J hd
  have e30 : gI hc 30 = gI hm 5 := funext H.1.1.2.2.2.2.2
  have e27 : gI hc 27 = gI hm 2 := funext H.1.1.2.2.1
  have lh := l_hold4 (h := hc) t15 A2 (fun j hj => (tr j hj).1) A1 (tanksM hm) [] 0 rfl FU (FU_gt (by omega))
  rw [show nI ([] : List Nat).length = 0 from nI_0, Int32.zero_add, Int32.zero_add, e30, e27] at lh
  have tr' : ∀ j ∈ tanksM hm, j < 15 ∧ (-99 ≤ (gI hm 2 j).toInt ∧ (gI hm 2 j).toInt ≤ 99) ∧ (0 ≤ (gI hm 4 j).toInt ∧ (gI hm 4 j).toInt ≤ 999) := fun j hj => by
    obtain ⟨y1, -, y2, y3, -⟩ := tr j hj
    exact ⟨y1, y2, y3⟩
  have mL : ∀ j ∈ tanksM hm, 0 ≤ (gI hm 4 j).toInt := fun j hj => ((tr' j hj).2.2).1
  have k1 : (1 : Int64).toInt = 1 := by decide +kernel
  unfold fX0_findSums fX4_tanksHold fX4_tanksMoment
  rw [e_heavyC (RR_VNc H) (RR_VYc H), bd_s, lh.1, bd_s, nm_e1, e_momC (RR_VNc H), bd_s, lh.2, bd_s, nm_e1, RR_Hc H, RR_Mc H, show Hm hm d - sumL (gI hm 5) (tanksM hm) = rV3 hm d from rfl, show Mm hm - sumL (fun j => gI hm 2 j * gI hm 5 j) (tanksM hm) = rV4 hm from rfl]
  obtain ⟨h1, a1, a2, a3, a4⟩ := e_reset hc 11 0 1099511627776
  have bd1 : bdS h1 11 := by unfold bdS; rw [a3, a4, z64, far_i.1]; omega
  have sl : ∀ (h : HS), h.1 = hc.1 → ∀ k, gI h 17 k = gI hm 8 k := fun h hh k => by
    have : gI h 17 k = gI hc 17 k := by unfold gI; rw [hh]
    rw [this, RR_sl H]
  have ng0 : (-gI hm 8 0).toInt = -(gI hm 8 0).toInt := Jvm.Kit.i32_neg (by omega)
  have ng1 : (-gI hm 8 1).toInt = -(gI hm 8 1).toInt := Jvm.Kit.i32_neg (by omega)
  obtain ⟨h2, b1, b2, b3, b4⟩ := e_narrow (h := h1) (a := 11) (s := (rV3 hm d).toInt64) (st := 1) (l := (-gI hm 8 0).toInt64) (m := (gI hm 8 0).toInt64) (i64_small _).1 (by unfold sm50; rw [k1]; omega) (i64_small _).1 (i64_small _).1 bd1
  have o2 := onlyS_t a2 b2
  have H2 := RR_L o2 H
  have c2i : ∀ b j, gI h2 b j = gI hc b j := onlyS_I o2
  have fs : sm50 (1099511627776 : Int64) ∧ sm50 (-1099511627776 : Int64) := by unfold sm50; rw [far_i.1, far_i.2]; omega
  have qr1 := fun s (hs : 0 ≤ s) => mw_rng (x := fun j => (gI hm 2 j).toInt) (m := fun j => (gI hm 4 j).toInt) (L := tanksM hm) (s := s) (fun j hj => (tr' j hj).2.1) (fun j hj => (tr' j hj).2.2) hs
  have qr2 := fun s (hs : 0 ≤ s) => mw_rng (x := fun j => (gI hm 2 j).toInt) (m := fun j => (gI hm 4 j).toInt) (L := (tanksM hm).reverse) (s := s) (fun j hj => (tr' j (List.mem_reverse.mp hj)).2.1) (fun j hj => (tr' j (List.mem_reverse.mp hj)).2.2) hs
  simp only [List.length_reverse] at qr2
  obtain ⟨h3, d1, d2, d3, d4⟩ := e_keepS (v2 := 1) (L := tanksM hm) (σ := fun i => i) (l := -1099511627776) (u := (gI hm 8 1).toInt64) (M := rV4 hm) H2 t15 (by rw [c2i]; exact A2) (fun i hi => ⟨by omega, by rw [if_neg (by decide)]⟩) (fun i j hk => by rw [c2i]; exact A1 i j hk) tr' fs.2 (i64_small _).1 v4r (fun a s b h0 h1 h2 oa ob => by
    refine ⟨?_, ?_⟩
    · rw [far_i.2]; have := qr1 s (by omega); omega
    · have := mw_conv (T := (gI hm 8 1).toInt64.toInt - (rV4 hm).toInt) (tanks_sorted hm) mL h0 h1 h2 (by have := oa.2; omega) (by have := ob.2; omega)
      omega) b3
  have o3 : h3.1 = hc.1 := d2.trans o2.1
  have c3i : ∀ b j, gI h3 b j = gI hc b j := fun b j => by unfold gI; rw [o3]
  have H3 : RR h3 hm := RR_cg (fun b j _ => c3i b j) cg_rf H
  obtain ⟨h4, f1, f2, f3, f4⟩ := e_keepS (v2 := 0) (L := (tanksM hm).reverse) (σ := fun i => (tanksM hm).length - 1 - i) (l := (-gI hm 8 1).toInt64) (u := 1099511627776) (M := rV4 hm) H3 (by rw [List.length_reverse]; exact t15) (by rw [c3i, List.length_reverse]; exact A2) (fun i hi => by
      rw [List.length_reverse] at hi ⊢
      exact ⟨by omega, by rw [if_pos rfl, show (1 : Int32) = nI 1 by decide, pk_sub (by omega), pk_sub (by omega)]⟩) (fun i j hk => by
        have hi : i < (tanksM hm).length := by
          by_cases z : i < (tanksM hm).length
          · exact z
          · rw [List.getElem?_eq_none (by rw [List.length_reverse]; omega)] at hk; cases hk
        rw [c3i]; exact A1 _ j (rev_get rfl hi hk)) (fun j hj => tr' j (List.mem_reverse.mp hj)) (i64_small _).1 fs.1 v4r (fun a s b h0 h1 h2 oa ob => by
    refine ⟨?_, ?_⟩
    · have := mw_conc (x := fun j => (gI hm 2 j).toInt) (m := fun j => (gI hm 4 j).toInt) (L := (tanksM hm).reverse) (T := (-gI hm 8 1).toInt64.toInt - (rV4 hm).toInt) (List.pairwise_reverse.mpr (tanks_sorted hm)) (fun j hj => mL j (List.mem_reverse.mp hj)) h0 h1 h2 (by have := oa.1; omega) (by have := ob.1; omega)
      omega
    · rw [far_i.1]; have := qr2 s (by omega); omega) d3
  have o4 : h4.1 = hc.1 := f2.trans o3
  have iff : ∀ k, inS h4 11 k ↔ InR hm d k := fun k => by
    rw [f4 k, d4 k, b4 k, allL_rev]
    have i1 : inS h1 11 k ↔ 0 ≤ k ∧ k ≤ 1099511627776 := by unfold inS; rw [a3, a4, z64, far_i.1]
    rw [i1, (i64_small _).2, (i64_small _).2, (i64_small _).2, k1, Int.one_mul, ng0]
    unfold okK InR
    rw [(i64_small _).2, (i64_small _).2, far_i.1, far_i.2, ng1]
    have aL := allL_rng (m := fun j => (gI hm 4 j).toInt) (L := tanksM hm) (fun j hj => (tr' j hj).2.2)
    constructor
    · rintro ⟨⟨⟨z1, z2⟩, z3, z4⟩, z5, z6⟩
      exact ⟨z3, z2, z4.2, z6.1⟩
    · rintro ⟨z1, z2, z3, z4⟩
      have e1 := qr1 k z1.1
      have e2 := qr2 k z1.1
      exact ⟨⟨⟨by omega, z2⟩, z1, by omega, z3⟩, z1, z4, by omega⟩
  simp only [a1, bv_s, sl h1 a2.1, b1, sl h2 o2.1, d1, sl h3 o3, f1]
  unfold fX7_isEmpty
  by_cases c : gL h4 11 0 ≤ gL h4 11 1
  · rw [if_pos ((lg_cmp_le _ _).mpr c), bd_s, if_pos rfl]
    have c' := Int64.le_iff_toInt_le.mp c
    exact ⟨h4, 1, rfl, o4, Or.inr ⟨rfl, (iff _).mp ⟨by omega, by omega⟩, (iff _).mp ⟨by omega, by omega⟩, fun s hs => (iff s).mpr hs⟩⟩
  · rw [if_neg (fun z => c ((lg_cmp_le _ _).mp z)), bd_s, if_neg (by decide)]
    have c' : ¬ (gL h4 11 0).toInt ≤ (gL h4 11 1).toInt := fun z => c (Int64.le_iff_toInt_le.mpr z)
    refine ⟨h4, 0, rfl, o4, Or.inl ⟨rfl, fun s hs => ?_⟩⟩
    have := (iff s).mpr hs
    unfold inS at this
    omega
end REC
