/-! pumps that run, and more -/
section OPU
variable {hc hm : HS}
/-- what loads have when mu has gone from f to t (each -1 or a load's number) -/
def mvH (f : Nat → Int32) (a b mu : Int32) (k : Nat) : Int32 := if a.toInt = (k : Int) then f k - mu else if b.toInt = (k : Int) then f k + mu else f k
theorem nI_k {i k : Nat} (hi : i < 2 ^ 31) : (nI i).toInt = (k : Int) ↔ i = k := by
  rw [nI_toInt hi]
  omega
theorem m1_k {k : Nat} : ¬ (-1 : Int32).toInt = (k : Int) := by
  have z : (-1 : Int32).toInt = -1 := by decide +kernel
  omega
/-- an end takes so much more -/
def tkE (hm : HS) (e mu : Int32) : Prop := ∀ i, i < nLd hm → e = nI i → 0 ≤ (gI hm 5 i).toInt + mu.toInt ∧ (gI hm 5 i).toInt + mu.toInt ≤ (gI hm 4 i).toInt
theorem m1_ne {i : Nat} (h : i < 2 ^ 31) : ¬ (-1 : Int32) = nI i := fun e => by
  have := congrArg Int32.toInt e
  rw [nI_toInt h] at this
  have z : (-1 : Int32).toInt = -1 := by decide +kernel
  omega
theorem e_takes (H : RR hc hm) {e mu : Int32} (he : endP hm e) (hmu : -5000 ≤ mu.toInt ∧ mu.toInt ≤ 5000) (dc : Decidable (tkE hm e mu)) : fX5_takes e mu hc = some (if tkE hm e mu then 1 else 0, hc) := by
  have hn := RR_15 H
  unfold fX5_takes fX5_takes_38
  rw [f_thereC (by omega) (RR_eC H), bd_s, if10s]
  rcases he with rfl | ⟨i, hi, rfl, -⟩
  · rw [if_neg, if_pos]
    · intro i hi e
      exact absurd e (m1_ne (by omega))
    · rintro ⟨i, hi, e⟩
      exact m1_ne (by omega) e
  · rw [if_pos (show ∃ j, j < nLd hm ∧ nI i = nI j from ⟨i, hi, rfl⟩)]
    simp only [inb_n (show i < 15 by omega) (by omega), ck_t, nI_clamp (show i < 2 ^ 31 by omega), f_between, bd_s, if10s]
    rw [H.1.1.2.2.2.2.1 i, H.1.1.2.2.2.2.2 i]
    obtain ⟨-, -, -, a, b, c⟩ := H.2.1.1.2 i hi
    have e1 : (gI hm 5 i + mu).toInt = (gI hm 5 i).toInt + mu.toInt := fb_addI9 (by omega) (by omega)
    have iff : tkE hm (nI i) mu ↔ (0 ≤ gI hm 5 i + mu ∧ gI hm 5 i + mu ≤ gI hm 4 i) := by
      rw [i32_le, i32_le, e1, i32_z]
      constructor
      · intro h
        exact h i hi rfl
      · intro h j hj e
        have := (nI_eq (by omega) (by omega)).mp e
        subst this
        exact h
    by_cases q : tkE hm (nI i) mu
    · rw [if_pos q, if_pos (iff.mp q)]
    · rw [if_neg q, if_neg (fun z => q (iff.mpr z))]
theorem neg_rng {x : Int32} (h : -5000 ≤ x.toInt ∧ x.toInt ≤ 5000) : (-x).toInt = -x.toInt := by
  have e : -x = 0 - x := (Int32.zero_sub x).symm
  rw [e, fb_subI9 (by rw [i32_z]; omega) (by rw [i32_z]; omega), i32_z]
  omega
/-- a pump's number, its ends, its rate -/
theorem pump_at (H : RR hc hm) {x : Int32} {q : Nat} (eq : gI hm 0 39 = nI q) (hx : 0 ≤ x ∧ x ≤ gI hm 0 39 - 1) : ∃ p, p < 6 ∧ x = nI p ∧ endP hm (gI hm 17 p) ∧ endP hm (gI hm 18 p) ∧ ¬ gI hm 17 p = gI hm 18 p ∧ (1 ≤ (gI hm 19 p).toInt ∧ (gI hm 19 p).toInt ≤ 50) := by
  obtain ⟨q', h1, h2, h3⟩ := H.2.1.2.2.1
  rw [h2, i32_ltle (by omega)] at hx
  obtain ⟨p, hp, rfl⟩ := hx
  obtain ⟨a, b, c, d, -⟩ := h3 p hp
  exact ⟨p, by omega, rfl, a, b, c, d⟩
def pMu (hm : HS) (p : Nat) (n : Int32) : Int32 := n * gI hm 19 p
def canP (hm : HS) (p : Nat) (n : Int32) : Prop := tkE hm (gI hm 17 p) (-pMu hm p n) ∧ tkE hm (gI hm 18 p) (pMu hm p n)
theorem pMu_rng {p : Nat} {n : Int32} (hr : 1 ≤ (gI hm 19 p).toInt ∧ (gI hm 19 p).toInt ≤ 50) (hn : -99 ≤ n.toInt ∧ n.toInt ≤ 99) : (pMu hm p n).toInt = n.toInt * (gI hm 19 p).toInt ∧ -4950 ≤ (pMu hm p n).toInt ∧ (pMu hm p n).toInt ≤ 4950 := by
  have := mul_rng (x := n) (y := gI hm 19 p) (a := 99) (b := 50) (by omega) hn ⟨by omega, hr.2⟩ (by omega)
  exact ⟨this.1, by have := this.2.1; unfold pMu; omega, by have := this.2.2; unfold pMu; omega⟩
theorem e_can (H : RR hc hm) {p : Nat} (hp : p < 6) (ha : endP hm (gI hm 17 p)) (hb : endP hm (gI hm 18 p)) (hr : 1 ≤ (gI hm 19 p).toInt ∧ (gI hm 19 p).toInt ≤ 50) {n : Int32} (hn : -99 ≤ n.toInt ∧ n.toInt ≤ 99) (dc : Decidable (canP hm p n)) : fX5_can (nI p) n hc = some (if canP hm p n then 1 else 0, hc) := by
  have m := pMu_rng (hm := hm) hr hn
  have ng := neg_rng (x := pMu hm p n) (by omega)
  have d1 : Decidable (tkE hm (gI hm 17 p) (-pMu hm p n)) := Classical.propDecidable _
  have d2 : Decidable (tkE hm (gI hm 18 p) (pMu hm p n)) := Classical.propDecidable _
  obtain ⟨p1, p2, p3, p4, p5⟩ := H.1.2.2.2.2.2.1
  unfold fX5_can
  simp only [inb_n hp (by omega), ck_t, nI_clamp (show p < 2 ^ 31 by omega), nm_e1, p2, p3, p4]
  rw [show n * gI hm 19 p = pMu hm p n from rfl, e_takes H ha (by omega) d1, bd_s, if10s]
  by_cases c1 : tkE hm (gI hm 17 p) (-pMu hm p n)
  · rw [if_pos c1, p3 p, e_takes H hb (by omega) d2, bd_s, if10s]
    by_cases c2 : tkE hm (gI hm 18 p) (pMu hm p n)
    · rw [if_pos c2, if_pos ⟨c1, c2⟩]
    · rw [if_neg c2, if_neg (fun z => c2 z.2)]
  · rw [if_neg c1, if_neg (fun z => c1 z.1)]
/-- the class's move: only what loads have changes -/
theorem e_move (H : RR hc hm) {p : Nat} (hp : p < 6) (ha : endP hm (gI hm 17 p)) (hb : endP hm (gI hm 18 p)) (hne : ¬ gI hm 17 p = gI hm 18 p) (n : Int32) : ∃ hc', fX5_move (nI p) n hc = some hc' ∧ (∀ b j, ¬ b = 30 → gI hc' b j = gI hc b j) ∧ (∀ k, gI hc' 30 k = mvH (gI hm 5) (gI hm 17 p) (gI hm 18 p) (pMu hm p n) k) ∧ (∀ b j, gL hc' b j = gL hc b j) ∧ (∀ b j, gR hc' b j = gR hc b j) := by
  have hnn := RR_15 H
  obtain ⟨p1, p2, p3, p4, p5⟩ := H.1.2.2.2.2.2.1
  have l6 := H.1.1.2.2.2.2.2
  unfold fX5_move fX5_move_43
  simp only [inb_n hp (by omega), ck_t, nI_clamp (show p < 2 ^ 31 by omega), nm_e1, p2, p3, p4]
  rw [f_thereC (by omega) (RR_eC H), bd_s, if10s, show n * gI hm 19 p = pMu hm p n from rfl]
  generalize pMu hm p n = mu
  have tf : ∀ e : Int32, e = -1 → ¬ ∃ i, i < nLd hm ∧ e = nI i := by
    rintro e rfl ⟨i, hi, e⟩
    exact m1_ne (by omega) e
  rcases ha with ea | ⟨i, hi, ea, -⟩
  · rw [if_neg (tf _ ea), f_thereC (by omega) (RR_eC H), bd_s, if10s, p3 p]
    rcases hb with eb | ⟨j, hj, eb, -⟩
    · exact absurd (ea.trans eb.symm) hne
    · rw [eb, if_pos (show ∃ i, i < nLd hm ∧ nI j = nI i from ⟨j, hj, rfl⟩)]
      simp only [inb_n (show j < 15 by omega) (by omega), ck_t, nI_clamp (show j < 2 ^ 31 by omega), l6, bd_s, p3, eb]
      refine ⟨_, rfl, fun b k hbk => by rw [gI_pI, if_neg (fun z => hbk z.1)], fun k => ?_, fun _ _ => rfl, fun _ _ => rfl⟩
      unfold mvH
      rw [if_neg (by rw [ea]; exact m1_k), gI_pI]
      by_cases c : k = j
      · subst c
        rw [if_pos ⟨rfl, rfl⟩, if_pos (nI_toInt (by omega))]
      · rw [if_neg (fun z => c z.2), if_neg (fun z => c ((nI_k (by omega)).mp z).symm), l6]
  · rw [ea, if_pos (show ∃ a, a < nLd hm ∧ nI i = nI a from ⟨i, hi, rfl⟩)]
    simp only [inb_n (show i < 15 by omega) (by omega), ck_t, nI_clamp (show i < 2 ^ 31 by omega), l6, bd_s, p2, ea]
    have e2 : gI (pI hc 30 i (gI hm 5 i - mu)) 41 p = gI hm 18 p := by rw [gI_pI, if_neg (by omega)]; exact p3 p
    have eC : gI (pI hc 30 i (gI hm 5 i - mu)) 2 8 = nI (nLd hm) := by rw [gI_pI, if_neg (by omega)]; exact RR_eC H
    rw [e2, f_thereC (by omega) eC, bd_s, if10s]
    rcases hb with eb | ⟨j, hj, eb, -⟩
    · rw [if_neg (tf _ eb)]
      refine ⟨_, rfl, fun b k hbk => by rw [gI_pI, if_neg (fun z => hbk z.1)], fun k => ?_, fun _ _ => rfl, fun _ _ => rfl⟩
      unfold mvH
      rw [gI_pI]
      by_cases c : k = i
      · subst c
        rw [if_pos ⟨rfl, rfl⟩, if_pos (nI_toInt (by omega))]
      · rw [if_neg (fun z => c z.2), if_neg (fun z => c ((nI_k (by omega)).mp z).symm), if_neg (by rw [eb]; exact m1_k), l6]
    · rw [eb, if_pos (show ∃ a, a < nLd hm ∧ nI j = nI a from ⟨j, hj, rfl⟩)]
      have hij : ¬ j = i := fun z => hne (by rw [ea, eb, z])
      simp only [inb_n (show j < 15 by omega) (by omega), ck_t, nI_clamp (show j < 2 ^ 31 by omega), bd_s, e2, eb]
      rw [show gI (pI hc 30 i (gI hm 5 i - mu)) 30 j = gI hm 5 j by rw [gI_pI, if_neg (fun z => hij z.2)]; exact l6 j]
      refine ⟨_, rfl, fun b k hbk => by rw [gI_pI, if_neg (fun z => hbk z.1), gI_pI, if_neg (fun z => hbk z.1)], fun k => ?_, fun _ _ => rfl, fun _ _ => rfl⟩
      unfold mvH
      rw [gI_pI, gI_pI]
      by_cases c1 : k = i
      · subst c1
        rw [if_neg (fun z => hij z.2.symm), if_pos ⟨rfl, rfl⟩, if_pos ((nI_k (by omega)).mpr rfl)]
      · rw [if_neg (fun z => c1 ((nI_k (by omega)).mp z).symm)]
        by_cases c2 : k = j
        · subst c2
          rw [if_pos ⟨rfl, rfl⟩, if_pos ((nI_k (by omega)).mpr rfl)]
        · rw [if_neg (fun z => c2 z.2), if_neg (fun z => c1 z.2), if_neg (fun z => c2 ((nI_k (by omega)).mp z).symm), l6]
theorem iabs_pos {x : Int32} (h : 0 ≤ x) : iabs x = x := by unfold iabs; rw [if_pos h]
theorem iabs_neg {x : Int32} (h : ¬ 0 ≤ x) : iabs x = -x := by unfold iabs; rw [if_neg h, Int32.zero_sub]
/-- the model's run, where it can -/
theorem e_runs (H : RR hc hm) {p : Nat} (hp : p < 6) (ha : endP hm (gI hm 17 p)) (hb : endP hm (gI hm 18 p)) (hne : ¬ gI hm 17 p = gI hm 18 p) (hr : 1 ≤ (gI hm 19 p).toInt ∧ (gI hm 19 p).toInt ≤ 50) {n : Int32} (hn : -99 ≤ n.toInt ∧ n.toInt ≤ 99) (hn0 : ¬ n = 0) :
    (canP hm p n → ∃ hm', fX12_runs (nI p) n hm = some (iabs n * gI hm 19 p, hm') ∧ (∀ b j, ¬ b = 5 → gI hm' b j = gI hm b j) ∧ (∀ k, gI hm' 5 k = mvH (gI hm 5) (gI hm 17 p) (gI hm 18 p) (pMu hm p n) k) ∧ (∀ b j, gR hm' b j = gR hm b j)) ∧ (¬ canP hm p n → fX12_runs (nI p) n hm = some (-2, hm)) := by
  have hnn := RR_15 H
  have m := pMu_rng (hm := hm) hr hn
  have ng := neg_rng (x := pMu hm p n) (by omega)
  -- from, to, many as the model has them
  have core : ∀ (a b mu : Int32), endP hm a → endP hm b → ¬ a = b → -5000 ≤ mu.toInt → mu.toInt ≤ 5000 → 0 ≤ mu.toInt → (tkE hm a (-mu) ∧ tkE hm b mu → ∃ hm', (if a = -1 then fX12_runs_70 a b mu hm else ck (inb a 15) (if gI hm 5 a.toNatClampNeg < mu then some (-2, hm) else fX12_runs_70 a b mu hm)) = some (mu, hm') ∧ (∀ b j, ¬ b = 5 → gI hm' b j = gI hm b j) ∧ (∀ k, gI hm' 5 k = mvH (gI hm 5) a b mu k) ∧ (∀ b j, gR hm' b j = gR hm b j)) ∧ (¬ (tkE hm a (-mu) ∧ tkE hm b mu) → (if a = -1 then fX12_runs_70 a b mu hm else ck (inb a 15) (if gI hm 5 a.toNatClampNeg < mu then some (-2, hm) else fX12_runs_70 a b mu hm)) = some (-2, hm)) := by
    intro a b mu ea eb hab r1 r2 r0
    have ngm := neg_rng (x := mu) ⟨r1, r2⟩
    have tm1 : ∀ mu : Int32, tkE hm (-1) mu := fun mu i hi e => absurd e (m1_ne (by omega))
    have tn : ∀ (i : Nat) (mu : Int32), i < nLd hm → (tkE hm (nI i) mu ↔ 0 ≤ (gI hm 5 i).toInt + mu.toInt ∧ (gI hm 5 i).toInt + mu.toInt ≤ (gI hm 4 i).toInt) := fun i mu hi => ⟨fun h => h i hi rfl, fun h j hj e => by
      have := (nI_eq (by omega) (by omega)).mp e
      subst this
      exact h⟩
    have n1 : ∀ i, i < nLd hm → ¬ nI i = (-1 : Int32) := fun i hi e => m1_ne (by omega) e.symm
    -- the second half: b
    have second : ∀ (h1 : HS), fX12_runs_106 b mu h1 = some (mu, if b = -1 then h1 else pI h1 5 b.toNatClampNeg (gI h1 5 b.toNatClampNeg + mu)) := by
      intro h1
      unfold fX12_runs_106
      rcases eb with rfl | ⟨j, hj, rfl, -⟩
      · rw [if_pos rfl, if_pos rfl]
      · rw [if_neg (n1 j hj), if_neg (n1 j hj)]
        simp only [inb_n (show j < 15 by omega) (by omega), ck_t, nm_e1]
    have room : ¬ b = -1 → fX12_roomOf b hm = some (gI hm 4 b.toNatClampNeg - gI hm 5 b.toNatClampNeg, hm) := by
      intro hb1
      rcases eb with rfl | ⟨j, hj, rfl, -⟩
      · exact absurd rfl hb1
      · unfold fX12_roomOf
        simp only [inb_n (show j < 15 by omega) (by omega), ck_t]
    rcases ea with rfl | ⟨i, hi, rfl, -⟩
    · rw [if_pos rfl]
      rcases eb with rfl | ⟨j, hj, rfl, -⟩
      · exact absurd rfl hab
      · unfold fX12_runs_70 fX12_runs_90
        rw [if_neg (n1 j hj), room (n1 j hj), bd_s, if_pos rfl, second, if_neg (n1 j hj), nI_clamp (by omega)]
        obtain ⟨-, -, -, x1, x2, x3⟩ := H.2.1.1.2 j hj
        have e1 : (gI hm 4 j - gI hm 5 j).toInt = (gI hm 4 j).toInt - (gI hm 5 j).toInt := fb_subI9 (by omega) (by omega)
        refine ⟨fun c => ?_, fun c => ?_⟩
        · have c2 := (tn j mu hj).mp c.2
          rw [if_pos (i32_le.mpr (by omega))]
          refine ⟨_, rfl, fun b k hbk => by rw [gI_pI, if_neg (fun z => hbk z.1)], fun k => ?_, fun _ _ => rfl⟩
          unfold mvH
          rw [if_neg m1_k, gI_pI]
          by_cases z : k = j
          · subst z
            rw [if_pos ⟨rfl, rfl⟩, if_pos (nI_toInt (by omega))]
          · rw [if_neg (fun y => z y.2), if_neg (fun y => z ((nI_k (by omega)).mp y).symm)]
        · rw [if_neg]
          intro q
          refine c ⟨tm1 _, (tn j mu hj).mpr ?_⟩
          have := i32_le.mp q
          omega
    · rw [if_neg (n1 i hi)]
      simp only [inb_n (show i < 15 by omega) (by omega), ck_t, nI_clamp (show i < 2 ^ 31 by omega)]
      obtain ⟨-, -, -, x1, x2, x3⟩ := H.2.1.1.2 i hi
      by_cases c1 : gI hm 5 i < mu
      · rw [if_pos c1]
        have c1' := i32_lt.mp c1
        exact ⟨fun c => absurd ((tn i (-mu) hi).mp c.1) (by omega), fun _ => rfl⟩
      · rw [if_neg c1]
        have c1' : ¬ (gI hm 5 i).toInt < mu.toInt := fun z => c1 (i32_lt.mpr z)
        have ta : tkE hm (nI i) (-mu) := (tn i (-mu) hi).mpr (by omega)
        unfold fX12_runs_70 fX12_runs_90
        rcases eb with rfl | ⟨j, hj, rfl, -⟩
        · rw [if_pos rfl, if_neg (n1 i hi)]
          simp only [inb_n (show i < 15 by omega) (by omega), ck_t, nm_e1, nI_clamp (show i < 2 ^ 31 by omega), second, if_true]
          refine ⟨fun _ => ⟨_, rfl, fun b k hbk => by rw [gI_pI, if_neg (fun z => hbk z.1)], fun k => ?_, fun _ _ => rfl⟩, fun c => absurd ⟨ta, tm1 mu⟩ c⟩
          unfold mvH
          rw [gI_pI]
          by_cases z : k = i
          · subst z
            rw [if_pos ⟨rfl, rfl⟩, if_pos (nI_toInt (by omega))]
          · rw [if_neg (fun y => z y.2), if_neg (fun y => z ((nI_k (by omega)).mp y).symm), if_neg m1_k]
        · have hij : ¬ j = i := fun z => hab (by rw [z])
          obtain ⟨-, -, -, y1, y2, y3⟩ := H.2.1.1.2 j hj
          have e1 : (gI hm 4 j - gI hm 5 j).toInt = (gI hm 4 j).toInt - (gI hm 5 j).toInt := fb_subI9 (by omega) (by omega)
          rw [if_neg (n1 j hj), room (n1 j hj), bd_s, if_neg (n1 i hi)]
          simp only [inb_n (show i < 15 by omega) (by omega), ck_t, nm_e1, nI_clamp (show i < 2 ^ 31 by omega), nI_clamp (show j < 2 ^ 31 by omega), second, if_neg (n1 j hj)]
          rw [show gI (pI hm 5 i (gI hm 5 i - mu)) 5 j = gI hm 5 j by rw [gI_pI, if_neg (fun z => hij z.2)]]
          refine ⟨fun c => ?_, fun c => ?_⟩
          · have c2 := (tn j mu hj).mp c.2
            rw [if_pos (i32_le.mpr (by omega))]
            refine ⟨_, rfl, fun b k hbk => by rw [gI_pI, if_neg (fun z => hbk z.1), gI_pI, if_neg (fun z => hbk z.1)], fun k => ?_, fun _ _ => rfl⟩
            unfold mvH
            rw [gI_pI, gI_pI]
            by_cases z1 : k = i
            · subst z1
              rw [if_neg (fun z => hij z.2.symm), if_pos ⟨rfl, rfl⟩, if_pos ((nI_k (by omega)).mpr rfl)]
            · rw [if_neg (fun z => z1 ((nI_k (by omega)).mp z).symm)]
              by_cases z2 : k = j
              · subst z2
                rw [if_pos ⟨rfl, rfl⟩, if_pos ((nI_k (by omega)).mpr rfl)]
              · rw [if_neg (fun z => z2 z.2), if_neg (fun z => z1 z.2), if_neg (fun z => z2 ((nI_k (by omega)).mp z).symm)]
          · rw [if_neg]
            intro q
            refine c ⟨ta, (tn j mu hj).mpr ?_⟩
            have := i32_le.mp q
            omega
  unfold fX12_runs fX12_runs_19 fX12_runs_39
  by_cases c0 : n ≤ 0
  · have hn1 : n.toInt < 0 := by
      have := i32_le.mp c0
      have z : ¬ n.toInt = 0 := fun e => hn0 (Int32.toInt_inj.mp e)
      have z2 : (0 : Int32).toInt = 0 := rfl
      omega
    have e1 : iabs n * gI hm 19 p = -pMu hm p n := by
      rw [iabs_neg (fun z => by have := i32_le.mp z; have z2 : (0 : Int32).toInt = 0 := rfl; omega)]
      unfold pMu
      rw [Int32.neg_mul]
    have s1 : (pMu hm p n).toInt ≤ 0 := by
      rw [m.1]
      exact Int.mul_nonpos_of_nonpos_of_nonneg (by omega) (by omega)
    simp only [if_pos c0, inb_n hp (by omega), ck_t, nm_e1, nI_clamp (show p < 2 ^ 31 by omega), e1]
    have K := core (gI hm 18 p) (gI hm 17 p) (-pMu hm p n) hb ha (fun e => hne e.symm) (by omega) (by omega) (by omega)
    rw [Int32.neg_neg] at K
    refine ⟨fun c => ?_, fun c => K.2 (fun q => c ⟨q.2, q.1⟩)⟩
    obtain ⟨hm', a1, a2, a3, a4⟩ := K.1 ⟨c.2, c.1⟩
    refine ⟨hm', a1, a2, fun k => ?_, a4⟩
    rw [a3 k]
    unfold mvH
    by_cases z1 : (gI hm 17 p).toInt = (k : Int)
    · have z2 : ¬ (gI hm 18 p).toInt = (k : Int) := fun e => hne (Int32.toInt_inj.mp (z1.trans e.symm))
      rw [if_neg z2, if_pos z1, if_pos z1, Int32.sub_eq_add_neg]
    · by_cases z2 : (gI hm 18 p).toInt = (k : Int)
      · simp only [if_pos z2, if_neg z1, Int32.sub_eq_add_neg, Int32.neg_neg]
      · simp only [if_neg z2, if_neg z1]
  · have hn1 : 0 < n.toInt := by
      have z2 : (0 : Int32).toInt = 0 := rfl
      have : ¬ n.toInt ≤ (0 : Int32).toInt := fun q => c0 (i32_le.mpr q)
      omega
    have e1 : iabs n * gI hm 19 p = pMu hm p n := by
      rw [iabs_pos (i32_le.mpr (by have z2 : (0 : Int32).toInt = 0 := rfl; omega))]
      rfl
    have s1 : 0 ≤ (pMu hm p n).toInt := by
      rw [m.1]
      exact Int.mul_nonneg (by omega) (by omega)
    simp only [if_neg c0, inb_n hp (by omega), ck_t, nm_e1, nI_clamp (show p < 2 ^ 31 by omega), e1]
    exact core (gI hm 17 p) (gI hm 18 p) (pMu hm p n) ha hb hne (by omega) (by omega) s1
/-- a run on both sides: the relation holds again -/
theorem run_RR (H : RR hc hm) {p : Nat} (hp : p < 6) (ha : endP hm (gI hm 17 p)) (hb : endP hm (gI hm 18 p)) (hne : ¬ gI hm 17 p = gI hm 18 p) (hr : 1 ≤ (gI hm 19 p).toInt ∧ (gI hm 19 p).toInt ≤ 50) {n : Int32} (hn : -99 ≤ n.toInt ∧ n.toInt ≤ 99) {hc' hm' : HS} (c1 : ∀ b j, ¬ b = 30 → gI hc' b j = gI hc b j) (c2 : ∀ k, gI hc' 30 k = mvH (gI hm 5) (gI hm 17 p) (gI hm 18 p) (pMu hm p n) k) (m1 : ∀ b j, ¬ b = 5 → gI hm' b j = gI hm b j) (m2 : ∀ k, gI hm' 5 k = mvH (gI hm 5) (gI hm 17 p) (gI hm 18 p) (pMu hm p n) k) (hcan : canP hm p n) : RR hc' hm' := by
  have m := pMu_rng (hm := hm) hr hn
  have ng := neg_rng (x := pMu hm p n) (by omega)
  refine RR_has (hc := hc) (hm := hm) (fun b j q => c1 b j ?_) (fun b j q => m1 b j ?_) (fun k => ?_) (fun i hi => ?_) H
  · rintro rfl
    simp [kcH] at q
  · rintro rfl
    simp [kmH] at q
  · rw [c2 k, m2 k]
  · have hnn := RR_15 H
    rw [m2 i]
    obtain ⟨-, -, -, x1, x2, x3⟩ := H.2.1.1.2 i hi
    unfold mvH
    by_cases z1 : (gI hm 17 p).toInt = (i : Int)
    · rw [if_pos z1]
      have t := hcan.1 i hi (i32_eqI z1)
      have e : (gI hm 5 i - pMu hm p n).toInt = (gI hm 5 i).toInt - (pMu hm p n).toInt := fb_subI9 (by omega) (by omega)
      omega
    · rw [if_neg z1]
      by_cases z2 : (gI hm 18 p).toInt = (i : Int)
      · rw [if_pos z2]
        have t := hcan.2 i hi (i32_eqI z2)
        have e : (gI hm 5 i + pMu hm p n).toInt = (gI hm 5 i).toInt + (pMu hm p n).toInt := fb_addI9 (by omega) (by omega)
        omega
      · rw [if_neg z2]
        exact ⟨x1, x2⟩
end OPU
