section BKO2
variable {hc hm : HS}
/-- what book() answers of what was read -/
def bkA (r2 : Int32) (h1 : HS) : Option (Int32 × HS) := nm (pI h1 0 5 (0 : Int32)) (fun h3 => if r2 = (-1 : Int32) then (some ((gI h3 5 5), h3)) else (some (((-1 : Int32) - r2), h3)))
theorem op_book (H : RR hc hm) : OK2 (fX11_book hc) (fX12_book hm) := by
  obtain ⟨t1, t2, ⟨s, hs, es⟩, t4⟩ := H.1.2.2.1
  obtain ⟨-, -, kb, -⟩ := H.1.2.2.2.2.1
  obtain ⟨u, eu⟩ : ∃ u, u = min s 60 := ⟨_, rfl⟩
  obtain ⟨x, ex⟩ : ∃ x : Nat → Int32, x = fun j => gI hm 9 j &&& 255 := ⟨_, rfl⟩
  have xj : ∀ j, x j = gI hm 9 j &&& 255 := fun j => by rw [ex]
  obtain ⟨c0, ec0⟩ : ∃ y, y = pI hc 0 5 0 := ⟨_, rfl⟩
  obtain ⟨m0, em0⟩ : ∃ y, y = pI (pI hm 0 22 0) 0 19 0 := ⟨_, rfl⟩
  have gc0 : ∀ b j, gI c0 b j = if b = 0 ∧ j = 5 then 0 else gI hc b j := fun b j => by rw [ec0, gI_pI]
  have gm0 : ∀ b j, ¬ (b = 0 ∧ (j = 22 ∨ j = 19)) → gI m0 b j = gI hm b j := fun b j z => by rw [em0, gI_pI, if_neg (by omega), gI_pI, if_neg (by omega)]
  have HT : RR c0 m0 := by
    rw [ec0, em0]
    refine RR_upT (cg_pI rfl cg_rf) (cg_pI rfl (cg_pI rfl cg_rf)) ?_ H
    exact ⟨by simp [gI_pI], fun k => by simp [gI_pI, t2], ⟨0, by omega, by rw [gI_pI, if_pos ⟨rfl, rfl⟩, nI_0]⟩, fun k => by simp [gI_pI, t4]⟩
  obtain ⟨ch, ech⟩ : ∃ c, c = chT (gI hm 9) u := ⟨_, rfl⟩
  have Z : ZZ ch := by rw [ech]; exact chT_Z (by omega)
  -- the class
  obtain ⟨hC, eC⟩ : ∃ y, y = bgC 14 hc 16 0 (nI u) := ⟨_, rfl⟩
  have T : TC 14 hC ch := by
    rw [eC, ech]
    exact bgC_T (A := 14) (h := hc) (q := 16) (n := 80) (s := u) (p := 0) (m := gI hm 9) (by decide) (by decide) (by omega) (by omega) (fun k _ => t2 k) t4
  have fC : ∀ b j, ¬ b = 14 → gI hC b j = gI hc b j := fun b j z => by rw [eC]; exact bgC_g b j (fun y => z y.1)
  have c1 : gI hC 14 1 = nI u := by rw [eC]; unfold bgC; rw [gI_pI, if_neg (by decide), gI_pI, if_pos ⟨rfl, rfl⟩]
  have c2 : gI hC 14 2 = nI 0 := by rw [eC]; unfold bgC; rw [gI_pI, if_neg (by decide), gI_pI, if_neg (by decide), gI_pI, if_pos ⟨rfl, rfl⟩, nI_0]
  have tI : ∀ (A k : Nat) (y : HS) (v : Int32), gI y A k = v → pI y A k v = y := fun A k y v e => by rw [← e, pI_self]
  have sp : pI hC 14 2 (nI 0) = hC := tI _ _ _ _ c2
  have eb : fX2_begin 14 16 0 (imin (nI s) 60) hc = some hC := by
    have i1 : imax 0 (0 : Int32) = 0 := by first | decide | rfl
    have i2 : imin (imin (nI s) 60) (Int32.ofNat 80) = nI u := Int32.toInt_inj.mp (by rw [imin_toInt, imin_toInt, show Int32.ofNat 80 = nI 80 from rfl, show (60 : Int32) = nI 60 by decide, nI_toInt (by omega), nI_toInt (by omega), nI_toInt (by omega), nI_toInt (by omega)]; omega)
    rw [e_beginC (A := 14) (q := 16) (n := 80) hc 0 (imin (nI s) 60) (by decide), i1, i2, eC]
  obtain ⟨E, V⟩ : ∃ E, EC hC E := ⟨_, EC_any (RR_15 H) (by rw [fC 2 8 (by decide)]; exact RR_eC H)⟩
  -- the model
  obtain ⟨hM, eM⟩ : ∃ y, y = pI (bgM (pI hm 0 22 0) 9 (nI s) 60) 0 19 0 := ⟨_, rfl⟩
  have fM : ∀ b j, ¬ (b = 0 ∧ 26 ≤ j ∧ j ≤ 30) → gI hM b j = gI m0 b j := fun b j z => by
    rw [eM, em0, gI_pI, gI_pI]
    by_cases y : b = 0 ∧ j = 19
    · rw [if_pos y, if_pos y]
    · rw [if_neg y, if_neg y, bgM_g b j z]
  have m27 : gI hM 0 27 = nI s := by rw [eM, gI_pI, if_neg (by decide)]; unfold bgM; rw [gI_pI, if_neg (by decide), gI_pI, if_neg (by decide), gI_pI, if_neg (by decide), gI_pI, if_pos ⟨rfl, rfl⟩]
  have m28 : gI hM 0 28 = nI 60 := by rw [eM, gI_pI, if_neg (by decide)]; unfold bgM; rw [gI_pI, if_neg (by decide), gI_pI, if_neg (by decide), gI_pI, if_pos ⟨rfl, rfl⟩]; decide
  have m29 : gI hM 0 29 = nI 0 := by rw [eM, gI_pI, if_neg (by decide)]; unfold bgM; rw [gI_pI, if_neg (by decide), gI_pI, if_pos ⟨rfl, rfl⟩, nI_0]
  have m30 : gI hM 0 30 = -1 := by rw [eM, gI_pI, if_neg (by decide)]; unfold bgM; rw [gI_pI, if_pos ⟨rfl, rfl⟩]
  have mr : gR hM 0 26 = some 9 := by rw [eM]; rfl
  have spM : pI hM 0 29 (nI 0) = hM := tI _ _ _ _ m29
  have KP : ∀ h', exB hM h' → TM h' ch ∧ ∃ E, EM h' E := fun h' y => by
    have e9 : gI h' 9 = gI hm 9 := funext fun k => by rw [y.2 9 k (by decide) (by decide), fM 9 k (by omega), gm0 9 k (by omega)]
    refine ⟨?_, eV h', EM_of (M := h') (hc := c0) (fun a b j z1 z2 z3 => ?_) ?_⟩
    · rw [ech, ← e9]
      exact TM_of (q := 9) (n := 80) (t := s) (u := 60) (s := u) (by decide) (by decide) eu (by omega) (by omega) (by omega) (by omega) (by rw [y.2 0 27 (by decide) (by decide), m27]) (by rw [y.2 0 28 (by decide) (by decide), m28]) (by rw [y.2 0 30 (by decide) (by decide), m30]) (by show h'.2.2 0 26 = some 9; rw [y.1]; exact mr)
    · rw [gI_pI, if_neg (by omega)]
    · exact RR_cg cg_rf (fun b j q => by
        have z0 : ¬ (b = 0 ∧ 26 ≤ j ∧ j ≤ 30) := by
          rintro ⟨rfl, w⟩
          simp only [kmA, Bool.or_eq_true, beq_iff_eq] at q
          omega
        rw [y.2 b j (by rintro rfl; cases q) (by rintro rfl; cases q), fM b j z0]) HT
  have BM : fX12_book hm = if nI s ≤ 0 then fX12_book_39 FU 0 0 hM else fX12_book_39 FU 0 1 hM := by
    have g19 : gI (pI hm 0 22 0) 0 19 = nI s := by rw [gI_pI, if_neg (by decide), es]
    unfold fX12_book
    rw [nm_e1, g19, e_beginM, bv_s, nm_e1, ← eM, m27]
  have BC : fX11_book hc = bd (if nI s ≤ 0 then fX1_read_25 16 FU (nI s) 0 hC else bv (fX1_readLine hC) (fun h3 => fX1_read_25 16 FU (nI s) 0 h3)) bkA := by
    unfold fX11_book fX1_read
    rw [t1, es, eb, bv_s]
    rfl
  have bad : ∀ (f y : Nat) (hF : HS), f ≤ 60 → (∀ b j, kmA b j = true → gI hF b j = gI m0 b j) → OK2 (bd (some (nI f, pI (pI hC 14 2 (nI y)) 14 3 (nI f))) bkA) (some (-1 - nI f, hF)) := by
    intro f y hF hf hk
    unfold bkA
    rw [bd_s, nm_e1, if_neg (fun z => m1_ne (by omega) z.symm)]
    refine OK2_c (RR_cg (hc := c0) (hm := m0) (fun b j q => ?_) hk HT)
    rw [gc0, gI_pI]
    by_cases z : b = 0 ∧ j = 5
    · rw [if_pos z, if_pos z]
    · have z14 : ¬ b = 14 := by rintro rfl; cases q
      rw [if_neg z, if_neg z, gI_pI, if_neg (fun y => z14 y.1), gI_pI, if_neg (fun y => z14 y.1), fC b j z14]
  have fin : ∀ (L : List (Nat × Nat)) (e k : Nat) (h' : HS), s ≤ e → e ≤ 60 → L.length ≤ 15 → mkL x (s - 1) 1 = L.map (fun q => (nI q.1, q.2)) → (∀ q, q ∈ L → q.1 ≤ 15 ∧ q.2 ≤ s ∧ ∃ g e, pE ch q.2 = .inr (g, e)) → exB hM h' → (∀ i l p, L[i]? = some (l, p) → gI h' 15 i = nI p ∧ gI h' 16 i = nI l) → OK2 (bd (fX1_read_53 16 (nI s) (pI hC 14 2 (nI e))) bkA) (fX12_book_39 (k + 1) (nI L.length) 0 (pI h' 0 29 (nI e))) := by
    intro L e k h' h1 h2 h3 h4 h5 h6 h7
    have us : u = s := by omega
    have lm : (mkL x (s - 1) 1).length = L.length := by rw [h4, List.length_map]
    obtain ⟨hE, a1, a2, a3, a4, a5, a6⟩ := c_bk (x := x) T h1 h2 (by rw [c1, us]) (fun j hj => by rw [fC 16 j (by decide), t2 j, xj]) (by rw [lm]; exact h3)
    obtain ⟨mE, b1, b2, b3, b4, b5, b6⟩ := m_bk (h := h') (s := s) (e := e) (q := L.length) (k := k) h1 h2 h3 (by rw [h6.2 0 27 (by decide) (by decide), m27]) (by rw [h6.2 0 30 (by decide) (by decide), m30])
    rw [lm] at a2
    have g55 : gI (pI hE 0 5 0) 5 5 = nI L.length := by rw [gI_pI, if_neg (by decide), a2]
    unfold bkA
    rw [a1, bd_s, nm_e1, if_pos rfl, b1, g55]
    refine OK2_c (RR_upK (hc := c0) (hm := m0) (fun b j q => ?_) (fun b j q => ?_) ?_ HT)
    · rw [gc0, gI_pI]
      by_cases z : b = 0 ∧ j = 5
      · rw [if_pos z, if_pos z]
      · rw [if_neg z, if_neg z, a5 b j (by rintro rfl; cases q) (by rintro ⟨rfl, -⟩; cases q) (by rintro rfl; cases q) (by rintro rfl; cases q) (by rintro rfl; cases q), fC b j (by rintro rfl; cases q)]
    · have zz : ¬ (b = 0 ∧ ((26 ≤ j ∧ j ≤ 30) ∨ j = 31 ∨ j = 32)) := by
        rintro ⟨rfl, y⟩
        simp only [kmUK, Bool.or_eq_true, beq_iff_eq] at q
        omega
      rw [b4 b j (by rintro rfl; cases q) (by rintro rfl; cases q) (by rintro rfl; cases q) (by omega), h6.2 b j (by rintro rfl; cases q) (by rintro rfl; cases q), fM b j (by omega)]
    · have e12 : ∀ j, gI mE 12 j = if j < s then gI hm 9 j else gI hm 12 j := fun j => by
        rw [b5 j, h6.2 9 j (by decide) (by decide), h6.2 12 j (by decide) (by decide), fM 9 j (by omega), fM 12 j (by omega), gm0 9 j (by omega), gm0 12 j (by omega), t4 j]
      have ec : chT (gI mE 12) s = ch := by
        rw [ech, us]
        funext k
        unfold chT
        by_cases z : k < s
        · have q12 : gI mE 12 k = gI hm 9 k := by rw [e12, if_pos z]
          rw [q12]
        · rw [if_neg (fun y => z y.1), if_neg (fun y => z y.1)]
      refine ⟨by rw [g55, b2], by rw [gI_pI, if_neg (by decide), a3, b3], fun k => ?_, L.length, s, h3, by omega, b2, b3, fun k hk => ?_, fun i hi => ?_⟩
      · rw [e12]
        by_cases z : k < s
        · rw [if_pos z, t4]
        · rw [if_neg z, kb]
      · rw [gI_pI, if_neg (by omega), a4 k hk, e12, if_pos hk, xj]
      · obtain ⟨⟨l, p⟩, hL⟩ : ∃ q, L[i]? = some q := ⟨L[i], List.getElem?_eq_getElem hi⟩
        obtain ⟨y1, y2⟩ := h7 i l p hL
        obtain ⟨w1, w2, w3⟩ := h5 (l, p) (List.mem_of_getElem? hL)
        obtain ⟨v1, v2⟩ := a6 i (nI l) p (by rw [h4, List.getElem?_map, hL]; rfl)
        obtain ⟨x1, x2⟩ := b6 i hi
        refine ⟨by rw [gI_pI, if_neg (by omega), v1, x2, y2], by rw [gI_pI, if_neg (by omega), v2, x1, y1], ⟨l, Nat.lt_succ_of_le w1, by rw [x2, y2]⟩, p, w2, by rw [x1, y1], ?_⟩
        rw [ec]
        exact w3
  rw [BC, BM]
  by_cases s0 : s = 0
  · obtain ⟨w, ew⟩ := fuel1 (FU_gt (show 0 < 40000 by omega))
    have ch0 : ¬ ch 0 = 59 := by rw [ech]; unfold chT; rw [if_neg (by omega)]; decide
    have le0 : nI s ≤ 0 := by rw [s0, nI_0]; decide
    have tk : fX2_take 14 59 hC = some (0, hC) := by
      have q := c_take T (a := 0) (by omega) (p := 59) (by decide)
      rw [if_neg ch0, sp] at q
      exact q
    have R : fX1_read_25 16 FU (nI s) 0 hC = fX1_read_53 16 (nI s) (pI hC 14 2 (nI 0)) := by
      rw [ew, fX1_read_25, if_neg (by decide), tk, bd_s, if_pos rfl, sp]
    have F := fin [] 0 w hM (by omega) (by omega) (by decide) (by rw [s0]; rfl) (fun q hq => by cases hq) exB_r (fun i l p e => by rw [List.getElem?_nil] at e; cases e)
    rw [spM, List.length_nil, nI_0, ← nI_0] at F
    rw [if_pos le0, if_pos le0, R, ew]
    rw [nI_0] at F ⊢
    exact F
  · have n0 : ¬ nI s ≤ 0 := by rw [← nI_0]; exact nI_ge (by omega) (by omega)
    rw [if_neg n0, if_neg n0]
    have C := c_rd T Z V 16 (nI s) 61 0 0 FU (by omega) (by omega) (by omega) (FU_gt (by omega))
    have Mm := m_rd Z 61 0 0 FU hM KP (by omega) (by omega) (by omega) (FU_gt (by omega))
    rw [sp] at C
    rw [spM] at Mm
    rw [nI_0] at C Mm
    have mf : ∀ (hF : HS), (∀ b j, ¬ b = 15 → ¬ b = 16 → ¬ (b = 0 ∧ (j = 29 ∨ j = 30)) → gI hF b j = gI hM b j) → ∀ b j, kmA b j = true → gI hF b j = gI m0 b j := fun hF q6 b j q => by
      have z0 : ¬ (b = 0 ∧ 26 ≤ j ∧ j ≤ 30) := by
        rintro ⟨rfl, w⟩
        simp only [kmA, Bool.or_eq_true, beq_iff_eq] at q
        omega
      rw [q6 b j (by rintro rfl; cases q) (by rintro rfl; cases q) (by omega), fM b j z0]
    rcases C with ⟨f, y, p1, p2, p3⟩ | ⟨L, e, p1, p2, p3, p4, p5⟩
    · have B := bdC_p (A := 14) (h := hC) (x := nI y) p2
      have g3 : gI (pI (pI hC 14 2 (nI y)) 14 3 (nI f)) 14 3 = nI f := by rw [gI_pI, if_pos ⟨rfl, rfl⟩]
      have r : fX1_read_53 16 (nI s) (pI (pI hC 14 2 (nI y)) 14 3 (nI f)) = some (nI f, pI (pI hC 14 2 (nI y)) 14 3 (nI f)) := by
        unfold fX1_read_53
        rw [fin_B B, bd_s, g3, if_neg (fun z => m1_ne (by omega) z.symm)]
      rw [p3, r]
      have fm : ∀ (f' k : Nat) (v : Int32) (hF : HS), pBk ch 61 0 = .inl f' → 0 < k → gI hF 0 30 = nI f' → (∀ b j, ¬ b = 15 → ¬ b = 16 → ¬ (b = 0 ∧ (j = 29 ∨ j = 30)) → gI hF b j = gI hM b j) → OK2 (bd (some (nI f, pI (pI hC 14 2 (nI y)) 14 3 (nI f))) bkA) (fX12_book_39 k v 0 hF) := by
        intro f' k v hF q1 q4 q5 q6
        have ef : f = f' := Sum.inl.inj (p1.symm.trans q1)
        subst ef
        obtain ⟨k', rfl⟩ := fuel1 q4
        have B' : bdM hF := by unfold bdM; rw [q5]; exact fun z => m1_ne (by omega) z.symm
        rw [m_bkB B', q5]
        exact bad f y hF p2 (mf hF q6)
      rcases Mm with ⟨f', k, hF, q1, q2, q3, q4, q5, q6⟩ | ⟨f', k, hF, c', q0, q1, q2, q3, q4, q5, q6⟩ | ⟨L, e, k, h', q1, -⟩
      · rw [q3]
        exact fm f' k _ hF q1 q4 q5 q6
      · rw [q3]
        exact fm f' k _ hF q1 q4 q5 q6
      · rw [p1] at q1; cases q1
    · rcases Mm with ⟨f', k, hF, q1, -⟩ | ⟨f', k, hF, c', q0, q1, -⟩ | ⟨L', e', k, h', q1, q2, q3, q4, q5, q6, q7⟩
      · rw [p1] at q1; cases q1
      · rw [p1] at q1; cases q1
      · have q8 := Sum.inr.inj (p1.symm.trans q1)
        have eL : L = L' := congrArg Prod.fst q8
        have ee : e = e' := congrArg Prod.snd q8
        subst eL
        subst ee
        obtain ⟨k', rfl⟩ := fuel1 q4
        rw [p5, q5, Nat.zero_add]
        by_cases c : s ≤ e
        · have us : u = s := by omega
          obtain ⟨g1, g2, g3⟩ := mk_bk (ch := ch) (x := x) (s := s) (fun k hk => by rw [ech, us, xj]; exact sg_c hk (t4 k)) (fun k hk => by rw [ech, us]; unfold chT; rw [if_neg (by omega)]) 61 0 L e p1 c (Or.inl rfl)
          have X0 : ¬ x 0 = 61 := fun z => by
            have S0 : SC (x 0) (ch 0) := by rw [ech, us, xj]; exact sg_c (by omega) (t4 0)
            exact dg_ne g3 ((sg_eq S0 (by decide)).mp z)
          have m1 : mkL x (s - 0) 0 = mkL x (s - 1) 1 := by
            rw [show s - 0 = (s - 1) + 1 by omega, mkL, if_neg X0]
          rw [m1] at g1
          exact fin L e k' h' c p3 (by omega) g1 g2 q3 (fun i l p hl => by
            have := q7 i l p hl
            rw [Nat.zero_add] at this
            exact this)
        · have r : fX1_read_53 16 (nI s) (pI hC 14 2 (nI e)) = some (nI e, pI (pI hC 14 2 (nI e)) 14 3 (nI e)) := by
            unfold fX1_read_53
            rw [fin_bad T eu (by omega) hs (by omega) p3 c1, bd_s, if_neg (fun z => m1_ne (by omega) z.symm)]
          rw [r, m_bkE (KP h' q3).1 (by rw [q3.2 0 27 (by decide) (by decide), m27]) hs (by omega) p3]
          exact bad e e _ p3 (mf _ (fun b j z1 z2 z3 => by rw [gI_pI, if_neg (by omega), gI_pI, if_neg (by omega), q3.2 b j z1 z2]))
end BKO2
