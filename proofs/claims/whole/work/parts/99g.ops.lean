section MOR2
variable {hc hm : HS}
theorem e_addC {h : HS} {t : Nat} (e : gI h 4 1 = nI t) (ht : t < 20) (v : Int32) : fX6_add v h = some (pI (pI h 35 t v) 4 1 (nI (t + 1))) := by
  unfold fX6_add
  rw [e, show (20 : Int32) = nI 20 by decide, if_neg (nI_ge ht (by omega)), inb_n ht (by omega), ck_t, nI_clamp (by omega), nm_e1, nm_e1, gI_pI, if_neg (by omega), e, nI_1]
theorem l_m17 {q : Nat} (hq : q ≤ 15) (r : Int32) : ∀ (k i : Nat) (h : HS), i + k = q → gI h 4 1 = nI i → gI h 5 5 = nI q → ∀ n, k < n → ∃ h', fX11_morning_17 n r (nI i) h = some (r, h') ∧ gI h' 4 1 = nI (q + 2) ∧ (∀ j, j < i → gI h' 35 j = gI h 35 j) ∧ (∀ j, i ≤ j → j < q → gI h' 35 j = gI h 39 j) ∧ gI h' 35 q = gI h 5 9 ∧ gI h' 35 (q + 1) = gI h 5 10 ∧ (∀ b j, ¬ b = 4 → ¬ b = 35 → gI h' b j = gI h b j) := by
  intro k
  induction k with
  | zero =>
    intro i h hi e1 e5 n hn
    obtain ⟨m, rfl⟩ := fuel1 hn
    have : i = q := by omega
    subst this
    have a1 := e_addC e1 (by omega) (gI h 5 9)
    have a2 := e_addC (h := pI (pI h 35 i (gI h 5 9)) 4 1 (nI (i + 1))) (t := i + 1) (by rw [gI_pI, if_pos ⟨rfl, rfl⟩]) (by omega) (gI h 5 10)
    refine ⟨pI (pI (pI (pI h 35 i (gI h 5 9)) 4 1 (nI (i + 1))) 35 (i + 1) (gI h 5 10)) 4 1 (nI (i + 1 + 1)), ?_, ?_, ?_, ?_, ?_, ?_, ?_⟩
    · rw [fX11_morning_17, e5, if_pos (nI_le (by omega) (by omega)), a1, bv_s, show gI (pI (pI h 35 i (gI h 5 9)) 4 1 (nI (i + 1))) 5 10 = gI h 5 10 by rw [gI_pI, if_neg (by omega), gI_pI, if_neg (by omega)], a2, bv_s]
    · rw [gI_pI, if_pos ⟨rfl, rfl⟩]
    · intro j hj; rw [gI_pI, if_neg (by omega), gI_pI, if_neg (by omega), gI_pI, if_neg (by omega), gI_pI, if_neg (by omega)]
    · intro j h1 h2; omega
    · rw [gI_pI, if_neg (by omega), gI_pI, if_neg (by omega), gI_pI, if_neg (by omega), gI_pI, if_pos ⟨rfl, rfl⟩]
    · rw [gI_pI, if_neg (by omega), gI_pI, if_pos ⟨rfl, rfl⟩]
    · intro b j z1 z2; rw [gI_pI, if_neg (fun y => z1 y.1), gI_pI, if_neg (fun y => z2 y.1), gI_pI, if_neg (fun y => z1 y.1), gI_pI, if_neg (fun y => z2 y.1)]
  | succ k ih =>
    intro i h hi e1 e5 n hn
    obtain ⟨m, rfl⟩ := fuel1 hn
    have a1 := e_addC e1 (by omega) (gI h 39 i)
    obtain ⟨h', d1, d2, d3, d4, d5, d6, d7⟩ := ih (i + 1) (pI (pI h 35 i (gI h 39 i)) 4 1 (nI (i + 1))) (by omega) (by rw [gI_pI, if_pos ⟨rfl, rfl⟩]) (by rw [gI_pI, if_neg (by omega), gI_pI, if_neg (by omega)]; exact e5) m (by omega)
    have s : ∀ b j, ¬ b = 4 → ¬ b = 35 → gI (pI (pI h 35 i (gI h 39 i)) 4 1 (nI (i + 1))) b j = gI h b j := fun b j z1 z2 => by rw [gI_pI, if_neg (fun y => z1 y.1), gI_pI, if_neg (fun y => z2 y.1)]
    refine ⟨h', ?_, d2, fun j hj => ?_, fun j h1 h2 => ?_, by rw [d5, s 5 9 (by decide) (by decide)], by rw [d6, s 5 10 (by decide) (by decide)], fun b j z1 z2 => by rw [d7 b j z1 z2, s b j z1 z2]⟩
    · rw [fX11_morning_17, e5, if_neg (nI_ge (by omega) (by omega)), inb_n (show i < 15 by omega) (by omega), ck_t, nI_clamp (by omega), a1, bv_s, nm_e1, nI_1]
      exact d1
    · rw [d3 j (by omega), gI_pI, if_neg (by omega), gI_pI, if_neg (by omega)]
    · by_cases z : j = i
      · subst z
        rw [d3 j (by omega), gI_pI, if_neg (by omega), gI_pI, if_pos ⟨rfl, rfl⟩]
      · rw [d4 j (by omega) h2, s 39 j (by decide) (by decide)]
theorem op_morning (H : RR hc hm) : OK2 (fX11_morning hc) (fX12_morning hm) := by
  have BK := RR_BKo H
  have H2 := RR_thrown 0 H
  have BK2 : BKo (pI hm 0 22 0) := BKo_cg (by rw [gI_pI, if_neg (by decide)]) (by rw [gI_pI, if_neg (by decide)]) (gI_pIr (by decide)) (gI_pIr (by decide)) BK
  unfold fX11_morning fX12_morning fX1_doMorning fX12_doMorning
  simp only [nm_e1]
  generalize pI hm 0 22 0 = M at *
  obtain ⟨k1, -, -, q, s, hq, -, e1, -, -, -⟩ := H2.1.2.2.2.2.1
  have Hx : RR (pI (pI hc 5 9 0) 5 10 0) M := RR_39 (fun b j _ z2 => by rw [gI_pI, if_neg (fun y => z2 ⟨y.1, by omega⟩), gI_pI, if_neg (fun y => z2 ⟨y.1, by omega⟩)]) H2
  obtain ⟨h, eh⟩ : ∃ h, h = pI (pI (pI M 0 21 0) 0 37 0) 0 38 0 := ⟨_, rfl⟩
  have gh : ∀ b j, gI h b j = if b = 0 ∧ j = 38 then 0 else if b = 0 ∧ j = 37 then 0 else if b = 0 ∧ j = 21 then 0 else gI M b j := fun b j => by rw [eh, gI_pI, gI_pI, gI_pI]
  have x : exV h M := fun b j z1 z2 z3 => by rw [gh, if_neg (by omega), if_neg (by omega), if_neg (by omega)]
  obtain ⟨r, hcE, hE, ME, d1, d2, d3, d4, d5, d6, d7, d8, d9, d10, d11, d12, d13⟩ := dom_loop (q := q) 1 hq q 0 _ h M 0 (by omega) Hx x BK2 e1 (fun _ => by rw [gh, if_neg (by decide), if_neg (by decide), if_pos ⟨rfl, rfl⟩, nI_0]) (by rw [gI_pI, if_neg (by decide), gI_pI, if_pos ⟨rfl, rfl⟩, gh, if_neg (by decide), if_pos ⟨rfl, rfl⟩]) (by rw [gI_pI, if_pos ⟨rfl, rfl⟩, gh, if_pos ⟨rfl, rfl⟩]) FU FU (FU_gt (by omega)) (FU_gt (by omega))
  rw [nI_0] at d1 d2
  obtain ⟨f1, -, f3⟩ := d13 (by decide)
  have c5 : gI hcE 5 5 = nI q := by rw [d7 5 5 (by decide) (by decide) (by decide) (by decide), gI_pI, if_neg (by decide), gI_pI, if_neg (by decide), k1, e1]
  have y0 : ∀ b j, ¬ b = 4 → gI (pI hcE 4 1 0) b j = gI hcE b j := fun b j z => by rw [gI_pI, if_neg (fun y => z y.1)]
  obtain ⟨hcF, g1, g2, -, g4, g5, g6, g7⟩ := l_m17 hq r q 0 (pI hcE 4 1 0) (by omega) (by rw [gI_pI, if_pos ⟨rfl, rfl⟩, nI_0]) (by rw [y0 5 5 (by decide)]; exact c5) FU (FU_gt (by omega))
  rw [nI_0] at g1
  have t1 := e_tellM f1 (by omega) (gI hE 0 37)
  have t2 := e_tellM (h := pI (pI hE 10 q (gI hE 0 37)) 0 21 (nI (q + 1))) (t := q + 1) (by rw [gI_pI, if_pos ⟨rfl, rfl⟩]) (by omega) (gI hE 0 38)
  have e38 : gI (pI (pI hE 10 q (gI hE 0 37)) 0 21 (nI (q + 1))) 0 38 = gI hE 0 38 := by rw [gI_pI, if_neg (by decide), gI_pI, if_neg (by omega)]
  rw [d1, bd_s, show fX6_empty hcE = some (pI hcE 4 1 0) from rfl, bv_s, g1, ← eh, d2, bd_s, t1, bv_s, e38, t2, bv_s]
  obtain ⟨hF, ehF⟩ : ∃ y, y = pI (pI (pI (pI hE 10 q (gI hE 0 37)) 0 21 (nI (q + 1))) 10 (q + 1) (gI hE 0 38)) 0 21 (nI (q + 1 + 1)) := ⟨_, rfl⟩
  rw [← ehF]
  have sF : ∀ b j, ¬ b = 10 → ¬ (b = 0 ∧ j = 21) → gI hF b j = gI hE b j := fun b j z1 z2 => by rw [ehF, gI_pI, if_neg z2, gI_pI, if_neg (fun y => z1 y.1), gI_pI, if_neg z2, gI_pI, if_neg (fun y => z1 y.1)]
  have rF : ∀ j, gI hF 10 j = if j = q + 1 then gI hE 0 38 else if j = q then gI hE 0 37 else gI hE 10 j := fun j => by
    rw [ehF, gI_pI, if_neg (by omega), gI_pI]
    by_cases z : j = q + 1
    · rw [if_pos ⟨rfl, z⟩, if_pos z]
    · rw [if_neg (fun y => z y.2), if_neg z, gI_pI, if_neg (by omega), gI_pI]
      by_cases w : j = q
      · rw [if_pos ⟨rfl, w⟩, if_pos w]
      · rw [if_neg (fun y => w y.2), if_neg w]
  refine ⟨r, hcF, hF, rfl, rfl, RR_upW (hc := hcE) (hm := ME) (fun b j q => ?_) (fun b j q => ?_) ?_ d3⟩
  · have z1 : ¬ b = 4 := by rintro rfl; cases q
    have z2 : ¬ b = 35 := by rintro rfl; cases q
    rw [g7 b j z1 z2, y0 b j z1]
  · by_cases z : b = 0 ∧ j = 24
    · rw [sF b j (by omega) (by omega), z.1, z.2, d8 0 24 (by decide) (by decide) (by decide), gh, if_neg (by decide), if_neg (by decide), if_neg (by decide), H2.2.2, d3.2.2]
    · have z1 : ¬ b = 10 := by rintro rfl; cases q
      have z2 : ¬ b = 11 := by rintro rfl; cases q
      have z3 : ¬ (b = 0 ∧ (j = 21 ∨ j = 22 ∨ j = 24 ∨ (26 ≤ j ∧ j ≤ 30) ∨ j = 37 ∨ j = 38)) := by
        rintro ⟨rfl, y⟩
        simp only [kmUW, Bool.or_eq_true, beq_iff_eq] at q
        omega
      rw [sF b j z1 (by omega), d4 b j z1 z2 z3]
  · have eF : gI hF 0 21 = nI (q + 2) := by rw [ehF, gI_pI, if_pos ⟨rfl, rfl⟩]
    refine ⟨by rw [g2, eF], q + 2, by omega, eF, fun k hk => ?_⟩
    rw [rF]
    by_cases z : k = q + 1
    · rw [if_pos z, z, g6, y0 5 10 (by decide), d6]
    · rw [if_neg z]
      by_cases w : k = q
      · rw [if_pos w, w, g5, y0 5 9 (by decide), d5]
      · rw [if_neg w, g4 k (by omega) (by omega), y0 39 k (by decide), f3 k (by omega) (by omega)]
end MOR2
