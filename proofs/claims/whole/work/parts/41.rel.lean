/-! THE RELATION between the class's numbers (hc) and the model's (hm), and what holds of the model's -/
def sL (f : Nat → Int32) : Nat → Int32
  | 0 => 0
  | m + 1 => sL f m + f m
/-- loads -/
def RLo (hc hm : HS) : Prop := gI hc 2 8 = gI hm 0 0 ∧ (∀ k, gI hc 26 k = gI hm 1 k) ∧ (∀ k, gI hc 27 k = gI hm 2 k) ∧ (∀ k, gI hc 28 k = gI hm 3 k) ∧ (∀ k, gI hc 29 k = gI hm 4 k) ∧ (∀ k, gI hc 30 k = gI hm 5 k)
def IL (hm : HS) : Prop := VN hm ∧ ∀ i, i < nLd hm → (0 ≤ (gI hm 1 i).toInt ∧ (gI hm 1 i).toInt ≤ 3) ∧ (-99 ≤ (gI hm 2 i).toInt ∧ (gI hm 2 i).toInt ≤ 99) ∧ (-9 ≤ (gI hm 3 i).toInt ∧ (gI hm 3 i).toInt ≤ 9) ∧ 0 ≤ (gI hm 5 i).toInt ∧ (gI hm 5 i).toInt ≤ (gI hm 4 i).toInt ∧ (gI hm 4 i).toInt ≤ 999
/-- base, hull, layers, slacks, air, day, r -/
def RB (hc hm : HS) : Prop := gI hc 1 2 = gI hm 0 6 ∧ gI hc 1 3 = gI hm 0 7 ∧ gI hc 1 4 = gI hm 0 8 ∧ gI hc 3 3 = gI hm 0 9 ∧ gI hc 3 4 = gI hm 0 10 ∧ gI hc 3 2 = gI hm 0 11 ∧ (∀ k, gI hc 33 k = gI hm 6 k) ∧ (∀ k, gI hc 34 k = gI hm 7 k) ∧ (∀ k, gI hc 17 k = gI hm 8 k) ∧ gI hc 1 6 = gI hm 0 15 ∧ gI hc 1 7 = gI hm 0 16 ∧ gI hc 1 8 = gI hm 0 17
def IB (hm : HS) : Prop := (0 ≤ (gI hm 0 6).toInt ∧ (gI hm 0 6).toInt ≤ 99999) ∧ (-999999 ≤ (gI hm 0 7).toInt ∧ (gI hm 0 7).toInt ≤ 999999) ∧ (-99999 ≤ (gI hm 0 8).toInt ∧ (gI hm 0 8).toInt ≤ 99999) ∧ (1 ≤ (gI hm 0 9).toInt ∧ (gI hm 0 9).toInt ≤ 99999) ∧ (0 ≤ (gI hm 0 10).toInt ∧ (gI hm 0 10).toInt ≤ 99) ∧ VY hm ∧ (∀ i, i < nLy hm → (0 ≤ (gI hm 6 i).toInt ∧ (gI hm 6 i).toInt ≤ 600) ∧ 900 ≤ (gI hm 7 i).toInt ∧ (gI hm 7 i).toInt ≤ 1100) ∧ (0 ≤ (gI hm 8 0).toInt ∧ (gI hm 8 0).toInt ≤ 50) ∧ (0 ≤ (gI hm 8 1).toInt ∧ (gI hm 8 1).toInt ≤ 9999) ∧ (0 ≤ (gI hm 8 2).toInt ∧ (gI hm 8 2).toInt ≤ 9999) ∧ 0 ≤ (gI hm 0 15).toInt ∧ (gI hm 0 15).toInt ≤ 99999
/-- the text -/
def RT (hc hm : HS) : Prop := gI hc 0 5 = gI hm 0 19 ∧ (∀ k, gI hc 16 k = gI hm 9 k &&& 255) ∧ (∃ t, t ≤ 80 ∧ gI hm 0 19 = nI t) ∧ ∀ k, (gI hm 9 k).toInt8.toInt32 = gI hm 9 k
/-- the row -/
def RW (hc hm : HS) : Prop := gI hc 4 1 = gI hm 0 21 ∧ ∃ t, t ≤ 20 ∧ gI hm 0 21 = nI t ∧ ∀ k, k < t → gI hc 35 k = gI hm 10 k
/-- the book -/
def RK (hc hm : HS) : Prop := gI hc 5 5 = gI hm 0 31 ∧ gI hc 5 4 = gI hm 0 32 ∧ (∀ k, (gI hm 12 k).toInt8.toInt32 = gI hm 12 k) ∧ ∃ q s, q ≤ 15 ∧ s ≤ 60 ∧ gI hm 0 31 = nI q ∧ gI hm 0 32 = nI s ∧ (∀ k, k < s → gI hc 36 k = gI hm 12 k &&& 255) ∧ ∀ i, i < q → gI hc 37 i = gI hm 14 i ∧ gI hc 38 i = gI hm 13 i ∧ (∃ l, l < 16 ∧ gI hm 14 i = nI l) ∧ ∃ p, p ≤ s ∧ gI hm 13 i = nI p ∧ ∃ g e, pE (chT (gI hm 12) s) p = .inr (g, e)
/-- pumps -/
def RP (hc hm : HS) : Prop := gI hc 6 3 = gI hm 0 39 ∧ (∀ k, gI hc 40 k = gI hm 17 k) ∧ (∀ k, gI hc 41 k = gI hm 18 k) ∧ (∀ k, gI hc 42 k = gI hm 19 k) ∧ (∀ k, gI hc 43 k = gI hm 20 k)
def endP (hm : HS) (x : Int32) : Prop := x = -1 ∨ ∃ i, i < nLd hm ∧ x = nI i ∧ gI hm 1 i = 0
def IP (hm : HS) : Prop := ∃ q, q ≤ 6 ∧ gI hm 0 39 = nI q ∧ ∀ p, p < q → endP hm (gI hm 17 p) ∧ endP hm (gI hm 18 p) ∧ ¬ gI hm 17 p = gI hm 18 p ∧ (1 ≤ (gI hm 19 p).toInt ∧ (gI hm 19 p).toInt ≤ 50) ∧ (gI hm 20 p = 0 ∨ gI hm 20 p = 1)
/-- tellings and gauges -/
def cW (hm : HS) (w : Nat) (a : Nat) : Int32 := if w = 0 then 1 else if w = 1 then gI hm 2 a else gI hm 3 a
def tS (hm : HS) (t j : Nat) : Int32 := gI hm 23 (4 * (16 * t + j))
def tA (hm : HS) (t j : Nat) : Int32 := gI hm 23 (4 * (16 * t + j) + 1)
def tO (hm : HS) (t j : Nat) : Int32 := gI hm 23 (4 * (16 * t + j) + 2)
def tV (hm : HS) (t j : Nat) : Int32 := gI hm 23 (4 * (16 * t + j) + 3)
def moF (hm : HS) (w t : Nat) : Nat → Int32 := fun j => if tS hm t j = 98 then cW hm w (tA hm t j).toNatClampNeg * tV hm t j else 0
def hoF (hm : HS) (w t : Nat) : Nat → Int32 := fun j => if tS hm t j = 98 then 0 else if tS hm t j = 118 then cW hm w (tA hm t j).toNatClampNeg * (-tV hm t j) + cW hm w (tO hm t j).toNatClampNeg * tV hm t j else cW hm w (tA hm t j).toNatClampNeg * tV hm t j
theorem moF_e (hm : HS) (w t : Nat) : moF hm w t = fun j => if tS hm t j = 98 then cW hm w (tA hm t j).toNatClampNeg * tV hm t j else 0 := rfl
theorem hoF_e (hm : HS) (w t : Nat) : hoF hm w t = fun j => if tS hm t j = 98 then 0 else if tS hm t j = 118 then cW hm w (tA hm t j).toNatClampNeg * (-tV hm t j) + cW hm w (tO hm t j).toNatClampNeg * tV hm t j else cW hm w (tA hm t j).toNatClampNeg * tV hm t j := rfl
def tOK (hm : HS) (t j : Nat) : Prop := (tS hm t j = 108 ∨ tS hm t j = 118 ∨ tS hm t j = 98) ∧ (∃ a, a < nLd hm ∧ tA hm t j = nI a) ∧ (tS hm t j = 118 → ∃ b, b < nLd hm ∧ tO hm t j = nI b ∧ ¬ tO hm t j = tA hm t j)
def rowMo (hc : HS) (t : Nat) : Nat → Int32 := if t = 0 then gI hc 46 else if t = 1 then gI hc 47 else if t = 2 then gI hc 48 else if t = 3 then gI hc 49 else if t = 4 then gI hc 50 else gI hc 51
def rowHo (hc : HS) (t : Nat) : Nat → Int32 := if t = 0 then gI hc 53 else if t = 1 then gI hc 54 else if t = 2 then gI hc 55 else if t = 3 then gI hc 56 else if t = 4 then gI hc 57 else gI hc 58
def rowKe (hc : HS) (t : Nat) : Nat → Int32 := if t = 0 then gI hc 19 else if t = 1 then gI hc 20 else gI hc 21
def RG1 (hc hm : HS) (t : Nat) : Prop := ∃ m, m ≤ 16 ∧ gI hm 22 t = nI m ∧ (∀ j, j < m → tOK hm t j) ∧ ∀ w, w < 3 → rowMo hc t w = sL (moF hm w t) m ∧ rowHo hc t w = sL (hoF hm w t) m
def RG (hc hm : HS) : Prop := gI hc 8 3 = gI hm 0 50 ∧ gI hc 8 6 = gI hm 0 53 ∧ (∀ k, gI hc 59 k = gI hm 24 k) ∧ (∀ k, gI hc 60 k = gI hm 25 k) ∧ (∀ k, gI hc 61 k = gI hm 26 k) ∧ (∀ k, gI hc 62 k = gI hm 27 k) ∧ (∃ q, q ≤ 6 ∧ gI hm 0 50 = nI q ∧ ∀ t, t < q → RG1 hc hm t) ∧ ∃ g, g ≤ 12 ∧ gI hm 0 53 = nI g ∧ ∀ k, k < g → (0 ≤ (gI hm 24 k).toInt ∧ (gI hm 24 k).toInt ≤ 200) ∧ (0 ≤ (gI hm 25 k).toInt ∧ (gI hm 25 k).toInt ≤ 600) ∧ (0 ≤ (gI hm 26 k).toInt ∧ (gI hm 26 k).toInt ≤ 2)
/-- stores -/
def RS (hc hm : HS) : Prop := (∀ k, gI hc 63 k = gI hm 30 k) ∧ (∀ k, gI hc 64 k = gI hm 31 k) ∧ ∀ k, k < 15 → ¬ gI hm 30 k = 0 → gI hc 65 k = gI hm 32 k
def IS (hm : HS) : Prop := (∀ k, k < 15 → (0 ≤ (gI hm 30 k).toInt ∧ (gI hm 30 k).toInt ≤ 50) ∧ (0 ≤ (gI hm 31 k).toInt ∧ (gI hm 31 k).toInt ≤ 100)) ∧ (∀ k, k < 15 → nLd hm ≤ k → gI hm 30 k = 0) ∧ ∀ k, k < nLd hm → gI hm 32 k = -1 ∨ ∃ j, j < nLd hm ∧ gI hm 32 k = nI j ∧ ¬ j = k
/-- kept -/
def RE (hc hm : HS) : Prop := (∀ i, i < 3 → (gI hm 33 i = 0 ∨ gI hm 33 i = 1) ∧ (gI hm 33 i = 0 → gI hc 22 i = -1) ∧ (¬ gI hm 33 i = 0 → gI hc 22 i = gI hm 34 i) ∧ ∀ k, k < 15 → rowKe hc i k = gI hm 35 (15 * i + k)) ∧ (∀ k, gI hc 23 k = gI hm 36 k) ∧ (∀ k, gI hc 24 k = gI hm 37 k) ∧ (∀ k, gI hc 25 k = gI hm 38 k)
def IE (hm : HS) : Prop := ∀ i, i < 3 → ¬ gI hm 33 i = 0 → (0 ≤ (gI hm 36 i).toInt ∧ (gI hm 36 i).toInt ≤ 99999) ∧ ∃ m, m ≤ nLd hm ∧ gI hm 34 i = nI m ∧ ∀ k, k < m → 0 ≤ (gI hm 35 (15 * i + k)).toInt ∧ (gI hm 35 (15 * i + k)).toInt ≤ (gI hm 4 k).toInt
/-- the tanks from aft, the last one first -/
def insR (x : Nat → Int32) (l : Nat) : List Nat → List Nat
  | [] => [l]
  | j :: r => if x l < x j then j :: insR x l r else l :: j :: r
def ordR (kd x : Nat → Int32) : Nat → List Nat
  | 0 => []
  | n + 1 => if kd n = 0 then insR x n (ordR kd x n) else ordR kd x n
def tanksM (hm : HS) : List Nat := (ordR (gI hm 1) (gI hm 2) (nLd hm)).reverse
def RA (hc hm : HS) : Prop := gI hc 2 7 = nI (tanksM hm).length ∧ ∀ k j, (tanksM hm)[k]? = some j → gI hc 32 k = nI j
def RR (hc hm : HS) : Prop := (RLo hc hm ∧ RB hc hm ∧ RT hc hm ∧ RW hc hm ∧ RK hc hm ∧ RP hc hm ∧ RG hc hm ∧ RS hc hm ∧ RE hc hm ∧ RA hc hm) ∧ (IL hm ∧ IB hm ∧ IP hm ∧ IS hm ∧ IE hm) ∧ gI hm 0 24 = 0
def OK2 (oc om : Option (Int32 × HS)) : Prop := ∃ r hc hm, oc = some (r, hc) ∧ om = some (r, hm) ∧ RR hc hm
theorem gI_pIr {h : HS} {a k : Nat} {v : Int32} {b : Nat} (hb : ¬ b = a) : gI (pI h a k v) b = gI h b := by
  funext j
  rw [gI_pI, if_neg (fun q => hb q.1)]
theorem cg_rf {K : Nat → Nat → Bool} {h : HS} : ∀ b j, K b j = true → gI h b j = gI h b j := fun _ _ _ => rfl
theorem cg_pI {K : Nat → Nat → Bool} {h h' : HS} {a k : Nat} {v : Int32} (hk : K a k = false) (e : ∀ b j, K b j = true → gI h' b j = gI h b j) : ∀ b j, K b j = true → gI (pI h' a k v) b j = gI h b j := fun b j q => by
  rw [gI_pI, if_neg]
  · exact e b j q
  · rintro ⟨rfl, rfl⟩
    rw [hk] at q
    cases q
theorem cg_pL {K : Nat → Nat → Bool} {h h' : HS} {a k : Nat} {v : Int64} (e : ∀ b j, K b j = true → gI h' b j = gI h b j) : ∀ b j, K b j = true → gI (pL h' a k v) b j = gI h b j := e
theorem cg_pR {K : Nat → Nat → Bool} {h h' : HS} {a k : Nat} {v : Option Nat} (e : ∀ b j, K b j = true → gI h' b j = gI h b j) : ∀ b j, K b j = true → gI (pR h' a k v) b j = gI h b j := e
theorem cg_tr {K : Nat → Nat → Bool} {h h' h2 : HS} (e1 : ∀ b j, K b j = true → gI h' b j = gI h b j) (e2 : ∀ b j, K b j = true → gI h2 b j = gI h' b j) : ∀ b j, K b j = true → gI h2 b j = gI h b j := fun b j q => (e2 b j q).trans (e1 b j q)
theorem cg_le {K K2 : Nat → Nat → Bool} {h h' : HS} (hl : ∀ b j, K b j = true → K2 b j = true) (e : ∀ b j, K2 b j = true → gI h' b j = gI h b j) : ∀ b j, K b j = true → gI h' b j = gI h b j := fun b j q => e b j (hl b j q)
def kcRLo (b j : Nat) : Bool := match b with
  | 2 => j == 8
  | 26 => true
  | 27 => true
  | 28 => true
  | 29 => true
  | 30 => true
  | _ => false
def kmRLo (b j : Nat) : Bool := match b with
  | 0 => j == 0
  | 1 => true
  | 2 => true
  | 3 => true
  | 4 => true
  | 5 => true
  | _ => false
theorem RLo_cg {hc hc' hm hm' : HS} (ec : ∀ b j, kcRLo b j = true → gI hc' b j = gI hc b j) (em : ∀ b j, kmRLo b j = true → gI hm' b j = gI hm b j) (H : RLo hc hm) : RLo hc' hm' := by
  have ec_2_8 : gI hc' 2 8 = gI hc 2 8 := ec 2 8 rfl
  have ec_26 : gI hc' 26 = gI hc 26 := funext fun j => ec 26 j rfl
  have ec_27 : gI hc' 27 = gI hc 27 := funext fun j => ec 27 j rfl
  have ec_28 : gI hc' 28 = gI hc 28 := funext fun j => ec 28 j rfl
  have ec_29 : gI hc' 29 = gI hc 29 := funext fun j => ec 29 j rfl
  have ec_30 : gI hc' 30 = gI hc 30 := funext fun j => ec 30 j rfl
  have em_0_0 : gI hm' 0 0 = gI hm 0 0 := em 0 0 rfl
  have em_1 : gI hm' 1 = gI hm 1 := funext fun j => em 1 j rfl
  have em_2 : gI hm' 2 = gI hm 2 := funext fun j => em 2 j rfl
  have em_3 : gI hm' 3 = gI hm 3 := funext fun j => em 3 j rfl
  have em_4 : gI hm' 4 = gI hm 4 := funext fun j => em 4 j rfl
  have em_5 : gI hm' 5 = gI hm 5 := funext fun j => em 5 j rfl
  simp only [RLo] at H ⊢
  simp only [ec_2_8, ec_26, ec_27, ec_28, ec_29, ec_30, em_0_0, em_1, em_2, em_3, em_4, em_5]
  exact H
def kcRB (b j : Nat) : Bool := match b with
  | 1 => j == 2 || j == 3 || j == 4 || j == 6 || j == 7 || j == 8
  | 3 => j == 3 || j == 4 || j == 2
  | 17 => true
  | 33 => true
  | 34 => true
  | _ => false
def kmRB (b j : Nat) : Bool := match b with
  | 0 => j == 6 || j == 7 || j == 8 || j == 9 || j == 10 || j == 11 || j == 15 || j == 16 || j == 17
  | 6 => true
  | 7 => true
  | 8 => true
  | _ => false
theorem RB_cg {hc hc' hm hm' : HS} (ec : ∀ b j, kcRB b j = true → gI hc' b j = gI hc b j) (em : ∀ b j, kmRB b j = true → gI hm' b j = gI hm b j) (H : RB hc hm) : RB hc' hm' := by
  have ec_1_2 : gI hc' 1 2 = gI hc 1 2 := ec 1 2 rfl
  have ec_1_3 : gI hc' 1 3 = gI hc 1 3 := ec 1 3 rfl
  have ec_1_4 : gI hc' 1 4 = gI hc 1 4 := ec 1 4 rfl
  have ec_3_3 : gI hc' 3 3 = gI hc 3 3 := ec 3 3 rfl
  have ec_3_4 : gI hc' 3 4 = gI hc 3 4 := ec 3 4 rfl
  have ec_3_2 : gI hc' 3 2 = gI hc 3 2 := ec 3 2 rfl
  have ec_33 : gI hc' 33 = gI hc 33 := funext fun j => ec 33 j rfl
  have ec_34 : gI hc' 34 = gI hc 34 := funext fun j => ec 34 j rfl
  have ec_17 : gI hc' 17 = gI hc 17 := funext fun j => ec 17 j rfl
  have ec_1_6 : gI hc' 1 6 = gI hc 1 6 := ec 1 6 rfl
  have ec_1_7 : gI hc' 1 7 = gI hc 1 7 := ec 1 7 rfl
  have ec_1_8 : gI hc' 1 8 = gI hc 1 8 := ec 1 8 rfl
  have em_0_6 : gI hm' 0 6 = gI hm 0 6 := em 0 6 rfl
  have em_0_7 : gI hm' 0 7 = gI hm 0 7 := em 0 7 rfl
  have em_0_8 : gI hm' 0 8 = gI hm 0 8 := em 0 8 rfl
  have em_0_9 : gI hm' 0 9 = gI hm 0 9 := em 0 9 rfl
  have em_0_10 : gI hm' 0 10 = gI hm 0 10 := em 0 10 rfl
  have em_0_11 : gI hm' 0 11 = gI hm 0 11 := em 0 11 rfl
  have em_6 : gI hm' 6 = gI hm 6 := funext fun j => em 6 j rfl
  have em_7 : gI hm' 7 = gI hm 7 := funext fun j => em 7 j rfl
  have em_8 : gI hm' 8 = gI hm 8 := funext fun j => em 8 j rfl
  have em_0_15 : gI hm' 0 15 = gI hm 0 15 := em 0 15 rfl
  have em_0_16 : gI hm' 0 16 = gI hm 0 16 := em 0 16 rfl
  have em_0_17 : gI hm' 0 17 = gI hm 0 17 := em 0 17 rfl
  simp only [RB] at H ⊢
  simp only [ec_1_2, ec_1_3, ec_1_4, ec_3_3, ec_3_4, ec_3_2, ec_33, ec_34, ec_17, ec_1_6, ec_1_7, ec_1_8, em_0_6, em_0_7, em_0_8, em_0_9, em_0_10, em_0_11, em_6, em_7, em_8, em_0_15, em_0_16, em_0_17]
  exact H
def kcRT (b j : Nat) : Bool := match b with
  | 0 => j == 5
  | 16 => true
  | _ => false
def kmRT (b j : Nat) : Bool := match b with
  | 0 => j == 19
  | 9 => true
  | _ => false
theorem RT_cg {hc hc' hm hm' : HS} (ec : ∀ b j, kcRT b j = true → gI hc' b j = gI hc b j) (em : ∀ b j, kmRT b j = true → gI hm' b j = gI hm b j) (H : RT hc hm) : RT hc' hm' := by
  have ec_0_5 : gI hc' 0 5 = gI hc 0 5 := ec 0 5 rfl
  have ec_16 : gI hc' 16 = gI hc 16 := funext fun j => ec 16 j rfl
  have em_0_19 : gI hm' 0 19 = gI hm 0 19 := em 0 19 rfl
  have em_9 : gI hm' 9 = gI hm 9 := funext fun j => em 9 j rfl
  simp only [RT] at H ⊢
  simp only [ec_0_5, ec_16, em_0_19, em_9]
  exact H
def kcRW (b j : Nat) : Bool := match b with
  | 4 => j == 1
  | 35 => true
  | _ => false
def kmRW (b j : Nat) : Bool := match b with
  | 0 => j == 21
  | 10 => true
  | _ => false
theorem RW_cg {hc hc' hm hm' : HS} (ec : ∀ b j, kcRW b j = true → gI hc' b j = gI hc b j) (em : ∀ b j, kmRW b j = true → gI hm' b j = gI hm b j) (H : RW hc hm) : RW hc' hm' := by
  have ec_4_1 : gI hc' 4 1 = gI hc 4 1 := ec 4 1 rfl
  have ec_35 : gI hc' 35 = gI hc 35 := funext fun j => ec 35 j rfl
  have em_0_21 : gI hm' 0 21 = gI hm 0 21 := em 0 21 rfl
  have em_10 : gI hm' 10 = gI hm 10 := funext fun j => em 10 j rfl
  simp only [RW] at H ⊢
  simp only [ec_4_1, ec_35, em_0_21, em_10]
  exact H
def kcRK (b j : Nat) : Bool := match b with
  | 5 => j == 5 || j == 4
  | 36 => true
  | 37 => true
  | 38 => true
  | _ => false
def kmRK (b j : Nat) : Bool := match b with
  | 0 => j == 31 || j == 32
  | 12 => true
  | 13 => true
  | 14 => true
  | _ => false
theorem RK_cg {hc hc' hm hm' : HS} (ec : ∀ b j, kcRK b j = true → gI hc' b j = gI hc b j) (em : ∀ b j, kmRK b j = true → gI hm' b j = gI hm b j) (H : RK hc hm) : RK hc' hm' := by
  have ec_5_5 : gI hc' 5 5 = gI hc 5 5 := ec 5 5 rfl
  have ec_5_4 : gI hc' 5 4 = gI hc 5 4 := ec 5 4 rfl
  have ec_36 : gI hc' 36 = gI hc 36 := funext fun j => ec 36 j rfl
  have ec_37 : gI hc' 37 = gI hc 37 := funext fun j => ec 37 j rfl
  have ec_38 : gI hc' 38 = gI hc 38 := funext fun j => ec 38 j rfl
  have em_0_31 : gI hm' 0 31 = gI hm 0 31 := em 0 31 rfl
  have em_0_32 : gI hm' 0 32 = gI hm 0 32 := em 0 32 rfl
  have em_12 : gI hm' 12 = gI hm 12 := funext fun j => em 12 j rfl
  have em_13 : gI hm' 13 = gI hm 13 := funext fun j => em 13 j rfl
  have em_14 : gI hm' 14 = gI hm 14 := funext fun j => em 14 j rfl
  simp only [RK] at H ⊢
  simp only [ec_5_5, ec_5_4, ec_36, ec_37, ec_38, em_0_31, em_0_32, em_12, em_13, em_14]
  exact H
def kcRP (b j : Nat) : Bool := match b with
  | 6 => j == 3
  | 40 => true
  | 41 => true
  | 42 => true
  | 43 => true
  | _ => false
def kmRP (b j : Nat) : Bool := match b with
  | 0 => j == 39
  | 17 => true
  | 18 => true
  | 19 => true
  | 20 => true
  | _ => false
theorem RP_cg {hc hc' hm hm' : HS} (ec : ∀ b j, kcRP b j = true → gI hc' b j = gI hc b j) (em : ∀ b j, kmRP b j = true → gI hm' b j = gI hm b j) (H : RP hc hm) : RP hc' hm' := by
  have ec_6_3 : gI hc' 6 3 = gI hc 6 3 := ec 6 3 rfl
  have ec_40 : gI hc' 40 = gI hc 40 := funext fun j => ec 40 j rfl
  have ec_41 : gI hc' 41 = gI hc 41 := funext fun j => ec 41 j rfl
  have ec_42 : gI hc' 42 = gI hc 42 := funext fun j => ec 42 j rfl
  have ec_43 : gI hc' 43 = gI hc 43 := funext fun j => ec 43 j rfl
  have em_0_39 : gI hm' 0 39 = gI hm 0 39 := em 0 39 rfl
  have em_17 : gI hm' 17 = gI hm 17 := funext fun j => em 17 j rfl
  have em_18 : gI hm' 18 = gI hm 18 := funext fun j => em 18 j rfl
  have em_19 : gI hm' 19 = gI hm 19 := funext fun j => em 19 j rfl
  have em_20 : gI hm' 20 = gI hm 20 := funext fun j => em 20 j rfl
  simp only [RP] at H ⊢
  simp only [ec_6_3, ec_40, ec_41, ec_42, ec_43, em_0_39, em_17, em_18, em_19, em_20]
  exact H
def kcRG (b j : Nat) : Bool := match b with
  | 8 => j == 3 || j == 6
  | 46 => true
  | 47 => true
  | 48 => true
  | 49 => true
  | 50 => true
  | 51 => true
  | 53 => true
  | 54 => true
  | 55 => true
  | 56 => true
  | 57 => true
  | 58 => true
  | 59 => true
  | 60 => true
  | 61 => true
  | 62 => true
  | _ => false
def kmRG (b j : Nat) : Bool := match b with
  | 0 => j == 50 || j == 53 || j == 0
  | 2 => true
  | 3 => true
  | 22 => true
  | 23 => true
  | 24 => true
  | 25 => true
  | 26 => true
  | 27 => true
  | _ => false
theorem RG_cg {hc hc' hm hm' : HS} (ec : ∀ b j, kcRG b j = true → gI hc' b j = gI hc b j) (em : ∀ b j, kmRG b j = true → gI hm' b j = gI hm b j) (H : RG hc hm) : RG hc' hm' := by
  have ec_8_3 : gI hc' 8 3 = gI hc 8 3 := ec 8 3 rfl
  have ec_8_6 : gI hc' 8 6 = gI hc 8 6 := ec 8 6 rfl
  have ec_59 : gI hc' 59 = gI hc 59 := funext fun j => ec 59 j rfl
  have ec_60 : gI hc' 60 = gI hc 60 := funext fun j => ec 60 j rfl
  have ec_61 : gI hc' 61 = gI hc 61 := funext fun j => ec 61 j rfl
  have ec_62 : gI hc' 62 = gI hc 62 := funext fun j => ec 62 j rfl
  have ec_46 : gI hc' 46 = gI hc 46 := funext fun j => ec 46 j rfl
  have ec_47 : gI hc' 47 = gI hc 47 := funext fun j => ec 47 j rfl
  have ec_48 : gI hc' 48 = gI hc 48 := funext fun j => ec 48 j rfl
  have ec_49 : gI hc' 49 = gI hc 49 := funext fun j => ec 49 j rfl
  have ec_50 : gI hc' 50 = gI hc 50 := funext fun j => ec 50 j rfl
  have ec_51 : gI hc' 51 = gI hc 51 := funext fun j => ec 51 j rfl
  have ec_53 : gI hc' 53 = gI hc 53 := funext fun j => ec 53 j rfl
  have ec_54 : gI hc' 54 = gI hc 54 := funext fun j => ec 54 j rfl
  have ec_55 : gI hc' 55 = gI hc 55 := funext fun j => ec 55 j rfl
  have ec_56 : gI hc' 56 = gI hc 56 := funext fun j => ec 56 j rfl
  have ec_57 : gI hc' 57 = gI hc 57 := funext fun j => ec 57 j rfl
  have ec_58 : gI hc' 58 = gI hc 58 := funext fun j => ec 58 j rfl
  have em_0_50 : gI hm' 0 50 = gI hm 0 50 := em 0 50 rfl
  have em_0_53 : gI hm' 0 53 = gI hm 0 53 := em 0 53 rfl
  have em_24 : gI hm' 24 = gI hm 24 := funext fun j => em 24 j rfl
  have em_25 : gI hm' 25 = gI hm 25 := funext fun j => em 25 j rfl
  have em_26 : gI hm' 26 = gI hm 26 := funext fun j => em 26 j rfl
  have em_27 : gI hm' 27 = gI hm 27 := funext fun j => em 27 j rfl
  have em_22 : gI hm' 22 = gI hm 22 := funext fun j => em 22 j rfl
  have em_23 : gI hm' 23 = gI hm 23 := funext fun j => em 23 j rfl
  have em_0_0 : gI hm' 0 0 = gI hm 0 0 := em 0 0 rfl
  have em_2 : gI hm' 2 = gI hm 2 := funext fun j => em 2 j rfl
  have em_3 : gI hm' 3 = gI hm 3 := funext fun j => em 3 j rfl
  simp only [RG, RG1, rowMo, rowHo, moF_e, hoF_e, tOK, tS, tA, tO, tV, cW, nLd] at H ⊢
  simp only [ec_8_3, ec_8_6, ec_59, ec_60, ec_61, ec_62, ec_46, ec_47, ec_48, ec_49, ec_50, ec_51, ec_53, ec_54, ec_55, ec_56, ec_57, ec_58, em_0_50, em_0_53, em_24, em_25, em_26, em_27, em_22, em_23, em_0_0, em_2, em_3]
  exact H
def kcRS (b j : Nat) : Bool := match b with
  | 63 => true
  | 64 => true
  | 65 => true
  | _ => false
def kmRS (b j : Nat) : Bool := match b with
  | 30 => true
  | 31 => true
  | 32 => true
  | _ => false
theorem RS_cg {hc hc' hm hm' : HS} (ec : ∀ b j, kcRS b j = true → gI hc' b j = gI hc b j) (em : ∀ b j, kmRS b j = true → gI hm' b j = gI hm b j) (H : RS hc hm) : RS hc' hm' := by
  have ec_63 : gI hc' 63 = gI hc 63 := funext fun j => ec 63 j rfl
  have ec_64 : gI hc' 64 = gI hc 64 := funext fun j => ec 64 j rfl
  have ec_65 : gI hc' 65 = gI hc 65 := funext fun j => ec 65 j rfl
  have em_30 : gI hm' 30 = gI hm 30 := funext fun j => em 30 j rfl
  have em_31 : gI hm' 31 = gI hm 31 := funext fun j => em 31 j rfl
  have em_32 : gI hm' 32 = gI hm 32 := funext fun j => em 32 j rfl
  simp only [RS] at H ⊢
  simp only [ec_63, ec_64, ec_65, em_30, em_31, em_32]
  exact H
def kcRE (b j : Nat) : Bool := match b with
  | 19 => true
  | 20 => true
  | 21 => true
  | 22 => true
  | 23 => true
  | 24 => true
  | 25 => true
  | _ => false
def kmRE (b j : Nat) : Bool := match b with
  | 33 => true
  | 34 => true
  | 35 => true
  | 36 => true
  | 37 => true
  | 38 => true
  | _ => false
theorem RE_cg {hc hc' hm hm' : HS} (ec : ∀ b j, kcRE b j = true → gI hc' b j = gI hc b j) (em : ∀ b j, kmRE b j = true → gI hm' b j = gI hm b j) (H : RE hc hm) : RE hc' hm' := by
  have ec_22 : gI hc' 22 = gI hc 22 := funext fun j => ec 22 j rfl
  have ec_23 : gI hc' 23 = gI hc 23 := funext fun j => ec 23 j rfl
  have ec_24 : gI hc' 24 = gI hc 24 := funext fun j => ec 24 j rfl
  have ec_25 : gI hc' 25 = gI hc 25 := funext fun j => ec 25 j rfl
  have ec_19 : gI hc' 19 = gI hc 19 := funext fun j => ec 19 j rfl
  have ec_20 : gI hc' 20 = gI hc 20 := funext fun j => ec 20 j rfl
  have ec_21 : gI hc' 21 = gI hc 21 := funext fun j => ec 21 j rfl
  have em_33 : gI hm' 33 = gI hm 33 := funext fun j => em 33 j rfl
  have em_34 : gI hm' 34 = gI hm 34 := funext fun j => em 34 j rfl
  have em_35 : gI hm' 35 = gI hm 35 := funext fun j => em 35 j rfl
  have em_36 : gI hm' 36 = gI hm 36 := funext fun j => em 36 j rfl
  have em_37 : gI hm' 37 = gI hm 37 := funext fun j => em 37 j rfl
  have em_38 : gI hm' 38 = gI hm 38 := funext fun j => em 38 j rfl
  simp only [RE, rowKe] at H ⊢
  simp only [ec_22, ec_23, ec_24, ec_25, ec_19, ec_20, ec_21, em_33, em_34, em_35, em_36, em_37, em_38]
  exact H
def kcRA (b j : Nat) : Bool := match b with
  | 2 => j == 7
  | 32 => true
  | _ => false
def kmRA (b j : Nat) : Bool := match b with
  | 0 => j == 0
  | 1 => true
  | 2 => true
  | _ => false
theorem RA_cg {hc hc' hm hm' : HS} (ec : ∀ b j, kcRA b j = true → gI hc' b j = gI hc b j) (em : ∀ b j, kmRA b j = true → gI hm' b j = gI hm b j) (H : RA hc hm) : RA hc' hm' := by
  have ec_2_7 : gI hc' 2 7 = gI hc 2 7 := ec 2 7 rfl
  have ec_32 : gI hc' 32 = gI hc 32 := funext fun j => ec 32 j rfl
  have em_0_0 : gI hm' 0 0 = gI hm 0 0 := em 0 0 rfl
  have em_1 : gI hm' 1 = gI hm 1 := funext fun j => em 1 j rfl
  have em_2 : gI hm' 2 = gI hm 2 := funext fun j => em 2 j rfl
  simp only [RA, tanksM, nLd] at H ⊢
  simp only [ec_2_7, ec_32, em_0_0, em_1, em_2]
  exact H
def kmIL (b j : Nat) : Bool := match b with
  | 0 => j == 0
  | 1 => true
  | 2 => true
  | 3 => true
  | 4 => true
  | 5 => true
  | _ => false
theorem IL_cg {hm hm' : HS} (em : ∀ b j, kmIL b j = true → gI hm' b j = gI hm b j) (H : IL hm) : IL hm' := by
  have em_0_0 : gI hm' 0 0 = gI hm 0 0 := em 0 0 rfl
  have em_1 : gI hm' 1 = gI hm 1 := funext fun j => em 1 j rfl
  have em_2 : gI hm' 2 = gI hm 2 := funext fun j => em 2 j rfl
  have em_3 : gI hm' 3 = gI hm 3 := funext fun j => em 3 j rfl
  have em_4 : gI hm' 4 = gI hm 4 := funext fun j => em 4 j rfl
  have em_5 : gI hm' 5 = gI hm 5 := funext fun j => em 5 j rfl
  simp only [IL, VN, nLd] at H ⊢
  simp only [em_0_0, em_1, em_2, em_3, em_4, em_5]
  exact H
def kmIB (b j : Nat) : Bool := match b with
  | 0 => j == 6 || j == 7 || j == 8 || j == 9 || j == 10 || j == 11 || j == 15
  | 6 => true
  | 7 => true
  | 8 => true
  | _ => false
theorem IB_cg {hm hm' : HS} (em : ∀ b j, kmIB b j = true → gI hm' b j = gI hm b j) (H : IB hm) : IB hm' := by
  have em_0_6 : gI hm' 0 6 = gI hm 0 6 := em 0 6 rfl
  have em_0_7 : gI hm' 0 7 = gI hm 0 7 := em 0 7 rfl
  have em_0_8 : gI hm' 0 8 = gI hm 0 8 := em 0 8 rfl
  have em_0_9 : gI hm' 0 9 = gI hm 0 9 := em 0 9 rfl
  have em_0_10 : gI hm' 0 10 = gI hm 0 10 := em 0 10 rfl
  have em_0_11 : gI hm' 0 11 = gI hm 0 11 := em 0 11 rfl
  have em_6 : gI hm' 6 = gI hm 6 := funext fun j => em 6 j rfl
  have em_7 : gI hm' 7 = gI hm 7 := funext fun j => em 7 j rfl
  have em_8 : gI hm' 8 = gI hm 8 := funext fun j => em 8 j rfl
  have em_0_15 : gI hm' 0 15 = gI hm 0 15 := em 0 15 rfl
  simp only [IB, VY, nLy] at H ⊢
  simp only [em_0_6, em_0_7, em_0_8, em_0_9, em_0_10, em_0_11, em_6, em_7, em_8, em_0_15]
  exact H
def kmIP (b j : Nat) : Bool := match b with
  | 0 => j == 39 || j == 0
  | 1 => true
  | 17 => true
  | 18 => true
  | 19 => true
  | 20 => true
  | _ => false
theorem IP_cg {hm hm' : HS} (em : ∀ b j, kmIP b j = true → gI hm' b j = gI hm b j) (H : IP hm) : IP hm' := by
  have em_0_39 : gI hm' 0 39 = gI hm 0 39 := em 0 39 rfl
  have em_17 : gI hm' 17 = gI hm 17 := funext fun j => em 17 j rfl
  have em_18 : gI hm' 18 = gI hm 18 := funext fun j => em 18 j rfl
  have em_19 : gI hm' 19 = gI hm 19 := funext fun j => em 19 j rfl
  have em_20 : gI hm' 20 = gI hm 20 := funext fun j => em 20 j rfl
  have em_0_0 : gI hm' 0 0 = gI hm 0 0 := em 0 0 rfl
  have em_1 : gI hm' 1 = gI hm 1 := funext fun j => em 1 j rfl
  simp only [IP, endP, nLd] at H ⊢
  simp only [em_0_39, em_17, em_18, em_19, em_20, em_0_0, em_1]
  exact H
def kmIS (b j : Nat) : Bool := match b with
  | 0 => j == 0
  | 30 => true
  | 31 => true
  | 32 => true
  | _ => false
theorem IS_cg {hm hm' : HS} (em : ∀ b j, kmIS b j = true → gI hm' b j = gI hm b j) (H : IS hm) : IS hm' := by
  have em_30 : gI hm' 30 = gI hm 30 := funext fun j => em 30 j rfl
  have em_31 : gI hm' 31 = gI hm 31 := funext fun j => em 31 j rfl
  have em_32 : gI hm' 32 = gI hm 32 := funext fun j => em 32 j rfl
  have em_0_0 : gI hm' 0 0 = gI hm 0 0 := em 0 0 rfl
  simp only [IS, nLd] at H ⊢
  simp only [em_30, em_31, em_32, em_0_0]
  exact H
def kmIE (b j : Nat) : Bool := match b with
  | 0 => j == 0
  | 4 => true
  | 33 => true
  | 34 => true
  | 35 => true
  | 36 => true
  | _ => false
theorem IE_cg {hm hm' : HS} (em : ∀ b j, kmIE b j = true → gI hm' b j = gI hm b j) (H : IE hm) : IE hm' := by
  have em_33 : gI hm' 33 = gI hm 33 := funext fun j => em 33 j rfl
  have em_34 : gI hm' 34 = gI hm 34 := funext fun j => em 34 j rfl
  have em_35 : gI hm' 35 = gI hm 35 := funext fun j => em 35 j rfl
  have em_36 : gI hm' 36 = gI hm 36 := funext fun j => em 36 j rfl
  have em_4 : gI hm' 4 = gI hm 4 := funext fun j => em 4 j rfl
  have em_0_0 : gI hm' 0 0 = gI hm 0 0 := em 0 0 rfl
  simp only [IE, nLd] at H ⊢
  simp only [em_33, em_34, em_35, em_36, em_4, em_0_0]
  exact H
def kcA (b j : Nat) : Bool := match b with
  | 0 => j == 5
  | 1 => j == 2 || j == 3 || j == 4 || j == 6 || j == 7 || j == 8
  | 2 => j == 7 || j == 8
  | 3 => j == 2 || j == 3 || j == 4
  | 4 => j == 1
  | 5 => j == 4 || j == 5
  | 6 => j == 3
  | 8 => j == 3 || j == 6
  | 16 => true
  | 17 => true
  | 19 => true
  | 20 => true
  | 21 => true
  | 22 => true
  | 23 => true
  | 24 => true
  | 25 => true
  | 26 => true
  | 27 => true
  | 28 => true
  | 29 => true
  | 30 => true
  | 32 => true
  | 33 => true
  | 34 => true
  | 35 => true
  | 36 => true
  | 37 => true
  | 38 => true
  | 40 => true
  | 41 => true
  | 42 => true
  | 43 => true
  | 46 => true
  | 47 => true
  | 48 => true
  | 49 => true
  | 50 => true
  | 51 => true
  | 53 => true
  | 54 => true
  | 55 => true
  | 56 => true
  | 57 => true
  | 58 => true
  | 59 => true
  | 60 => true
  | 61 => true
  | 62 => true
  | 63 => true
  | 64 => true
  | 65 => true
  | _ => false
def kmA (b j : Nat) : Bool := match b with
  | 0 => j == 0 || j == 6 || j == 7 || j == 8 || j == 9 || j == 10 || j == 11 || j == 15 || j == 16 || j == 17 || j == 19 || j == 21 || j == 24 || j == 31 || j == 32 || j == 39 || j == 50 || j == 53
  | 1 => true
  | 2 => true
  | 3 => true
  | 4 => true
  | 5 => true
  | 6 => true
  | 7 => true
  | 8 => true
  | 9 => true
  | 10 => true
  | 12 => true
  | 13 => true
  | 14 => true
  | 17 => true
  | 18 => true
  | 19 => true
  | 20 => true
  | 22 => true
  | 23 => true
  | 24 => true
  | 25 => true
  | 26 => true
  | 27 => true
  | 30 => true
  | 31 => true
  | 32 => true
  | 33 => true
  | 34 => true
  | 35 => true
  | 36 => true
  | 37 => true
  | 38 => true
  | _ => false
theorem le_kcRLo : ∀ b j, kcRLo b j = true → kcA b j = true := by
  intro b j q
  unfold kcRLo at q
  split at q
  · simp only [Bool.or_eq_true, beq_iff_eq] at q
    subst q
    rfl
  · rfl
  · rfl
  · rfl
  · rfl
  · rfl
  · cases q
theorem le_kmRLo : ∀ b j, kmRLo b j = true → kmA b j = true := by
  intro b j q
  unfold kmRLo at q
  split at q
  · simp only [Bool.or_eq_true, beq_iff_eq] at q
    subst q
    rfl
  · rfl
  · rfl
  · rfl
  · rfl
  · rfl
  · cases q
theorem le_kcRB : ∀ b j, kcRB b j = true → kcA b j = true := by
  intro b j q
  unfold kcRB at q
  split at q
  · simp only [Bool.or_eq_true, beq_iff_eq] at q
    rcases q with ((((rfl | rfl) | rfl) | rfl) | rfl) | rfl <;> rfl
  · simp only [Bool.or_eq_true, beq_iff_eq] at q
    rcases q with (rfl | rfl) | rfl <;> rfl
  · rfl
  · rfl
  · rfl
  · cases q
theorem le_kmRB : ∀ b j, kmRB b j = true → kmA b j = true := by
  intro b j q
  unfold kmRB at q
  split at q
  · simp only [Bool.or_eq_true, beq_iff_eq] at q
    rcases q with (((((((rfl | rfl) | rfl) | rfl) | rfl) | rfl) | rfl) | rfl) | rfl <;> rfl
  · rfl
  · rfl
  · rfl
  · cases q
theorem le_kcRT : ∀ b j, kcRT b j = true → kcA b j = true := by
  intro b j q
  unfold kcRT at q
  split at q
  · simp only [Bool.or_eq_true, beq_iff_eq] at q
    subst q
    rfl
  · rfl
  · cases q
theorem le_kmRT : ∀ b j, kmRT b j = true → kmA b j = true := by
  intro b j q
  unfold kmRT at q
  split at q
  · simp only [Bool.or_eq_true, beq_iff_eq] at q
    subst q
    rfl
  · rfl
  · cases q
theorem le_kcRW : ∀ b j, kcRW b j = true → kcA b j = true := by
  intro b j q
  unfold kcRW at q
  split at q
  · simp only [Bool.or_eq_true, beq_iff_eq] at q
    subst q
    rfl
  · rfl
  · cases q
theorem le_kmRW : ∀ b j, kmRW b j = true → kmA b j = true := by
  intro b j q
  unfold kmRW at q
  split at q
  · simp only [Bool.or_eq_true, beq_iff_eq] at q
    subst q
    rfl
  · rfl
  · cases q
theorem le_kcRK : ∀ b j, kcRK b j = true → kcA b j = true := by
  intro b j q
  unfold kcRK at q
  split at q
  · simp only [Bool.or_eq_true, beq_iff_eq] at q
    rcases q with rfl | rfl <;> rfl
  · rfl
  · rfl
  · rfl
  · cases q
theorem le_kmRK : ∀ b j, kmRK b j = true → kmA b j = true := by
  intro b j q
  unfold kmRK at q
  split at q
  · simp only [Bool.or_eq_true, beq_iff_eq] at q
    rcases q with rfl | rfl <;> rfl
  · rfl
  · rfl
  · rfl
  · cases q
theorem le_kcRP : ∀ b j, kcRP b j = true → kcA b j = true := by
  intro b j q
  unfold kcRP at q
  split at q
  · simp only [Bool.or_eq_true, beq_iff_eq] at q
    subst q
    rfl
  · rfl
  · rfl
  · rfl
  · rfl
  · cases q
theorem le_kmRP : ∀ b j, kmRP b j = true → kmA b j = true := by
  intro b j q
  unfold kmRP at q
  split at q
  · simp only [Bool.or_eq_true, beq_iff_eq] at q
    subst q
    rfl
  · rfl
  · rfl
  · rfl
  · rfl
  · cases q
theorem le_kcRG : ∀ b j, kcRG b j = true → kcA b j = true := by
  intro b j q
  unfold kcRG at q
  split at q
  · simp only [Bool.or_eq_true, beq_iff_eq] at q
    rcases q with rfl | rfl <;> rfl
  · rfl
  · rfl
  · rfl
  · rfl
  · rfl
  · rfl
  · rfl
  · rfl
  · rfl
  · rfl
  · rfl
  · rfl
  · rfl
  · rfl
  · rfl
  · rfl
  · cases q
theorem le_kmRG : ∀ b j, kmRG b j = true → kmA b j = true := by
  intro b j q
  unfold kmRG at q
  split at q
  · simp only [Bool.or_eq_true, beq_iff_eq] at q
    rcases q with (rfl | rfl) | rfl <;> rfl
  · rfl
  · rfl
  · rfl
  · rfl
  · rfl
  · rfl
  · rfl
  · rfl
  · cases q
theorem le_kcRS : ∀ b j, kcRS b j = true → kcA b j = true := by
  intro b j q
  unfold kcRS at q
  split at q
  · rfl
  · rfl
  · rfl
  · cases q
theorem le_kmRS : ∀ b j, kmRS b j = true → kmA b j = true := by
  intro b j q
  unfold kmRS at q
  split at q
  · rfl
  · rfl
  · rfl
  · cases q
theorem le_kcRE : ∀ b j, kcRE b j = true → kcA b j = true := by
  intro b j q
  unfold kcRE at q
  split at q
  · rfl
  · rfl
  · rfl
  · rfl
  · rfl
  · rfl
  · rfl
  · cases q
theorem le_kmRE : ∀ b j, kmRE b j = true → kmA b j = true := by
  intro b j q
  unfold kmRE at q
  split at q
  · rfl
  · rfl
  · rfl
  · rfl
  · rfl
  · rfl
  · cases q
theorem le_kcRA : ∀ b j, kcRA b j = true → kcA b j = true := by
  intro b j q
  unfold kcRA at q
  split at q
  · simp only [Bool.or_eq_true, beq_iff_eq] at q
    subst q
    rfl
  · rfl
  · cases q
theorem le_kmRA : ∀ b j, kmRA b j = true → kmA b j = true := by
  intro b j q
  unfold kmRA at q
  split at q
  · simp only [Bool.or_eq_true, beq_iff_eq] at q
    subst q
    rfl
  · rfl
  · rfl
  · cases q
theorem le_kmIL : ∀ b j, kmIL b j = true → kmA b j = true := by
  intro b j q
  unfold kmIL at q
  split at q
  · simp only [Bool.or_eq_true, beq_iff_eq] at q
    subst q
    rfl
  · rfl
  · rfl
  · rfl
  · rfl
  · rfl
  · cases q
theorem le_kmIB : ∀ b j, kmIB b j = true → kmA b j = true := by
  intro b j q
  unfold kmIB at q
  split at q
  · simp only [Bool.or_eq_true, beq_iff_eq] at q
    rcases q with (((((rfl | rfl) | rfl) | rfl) | rfl) | rfl) | rfl <;> rfl
  · rfl
  · rfl
  · rfl
  · cases q
theorem le_kmIP : ∀ b j, kmIP b j = true → kmA b j = true := by
  intro b j q
  unfold kmIP at q
  split at q
  · simp only [Bool.or_eq_true, beq_iff_eq] at q
    rcases q with rfl | rfl <;> rfl
  · rfl
  · rfl
  · rfl
  · rfl
  · rfl
  · cases q
theorem le_kmIS : ∀ b j, kmIS b j = true → kmA b j = true := by
  intro b j q
  unfold kmIS at q
  split at q
  · simp only [Bool.or_eq_true, beq_iff_eq] at q
    subst q
    rfl
  · rfl
  · rfl
  · rfl
  · cases q
theorem le_kmIE : ∀ b j, kmIE b j = true → kmA b j = true := by
  intro b j q
  unfold kmIE at q
  split at q
  · simp only [Bool.or_eq_true, beq_iff_eq] at q
    subst q
    rfl
  · rfl
  · rfl
  · rfl
  · rfl
  · rfl
  · cases q
/-- numbers that the relation doesn't speak of -/
theorem RR_cg {hc hc' hm hm' : HS} (ec : ∀ b j, kcA b j = true → gI hc' b j = gI hc b j) (em : ∀ b j, kmA b j = true → gI hm' b j = gI hm b j) (H : RR hc hm) : RR hc' hm' := by
  obtain ⟨⟨h1, h2, h3, h4, h5, h6, h7, h8, h9, h10⟩, ⟨i1, i2, i3, i4, i5⟩, p⟩ := H
  exact ⟨⟨RLo_cg (cg_le le_kcRLo ec) (cg_le le_kmRLo em) h1, RB_cg (cg_le le_kcRB ec) (cg_le le_kmRB em) h2, RT_cg (cg_le le_kcRT ec) (cg_le le_kmRT em) h3, RW_cg (cg_le le_kcRW ec) (cg_le le_kmRW em) h4, RK_cg (cg_le le_kcRK ec) (cg_le le_kmRK em) h5, RP_cg (cg_le le_kcRP ec) (cg_le le_kmRP em) h6, RG_cg (cg_le le_kcRG ec) (cg_le le_kmRG em) h7, RS_cg (cg_le le_kcRS ec) (cg_le le_kmRS em) h8, RE_cg (cg_le le_kcRE ec) (cg_le le_kmRE em) h9, RA_cg (cg_le le_kcRA ec) (cg_le le_kmRA em) h10⟩, ⟨IL_cg (cg_le le_kmIL em) i1, IB_cg (cg_le le_kmIB em) i2, IP_cg (cg_le le_kmIP em) i3, IS_cg (cg_le le_kmIS em) i4, IE_cg (cg_le le_kmIE em) i5⟩, (em 0 24 rfl).trans p⟩
theorem RR_thrown {hc hm : HS} (v : Int32) (H : RR hc hm) : RR hc (pI hm 0 22 v) := RR_cg cg_rf (cg_pI rfl cg_rf) H
def kcUB (b j : Nat) : Bool := match b with
  | 0 => j == 5
  | 2 => j == 7 || j == 8
  | 4 => j == 1
  | 5 => j == 4 || j == 5
  | 6 => j == 3
  | 8 => j == 3 || j == 6
  | 16 => true
  | 19 => true
  | 20 => true
  | 21 => true
  | 22 => true
  | 23 => true
  | 24 => true
  | 25 => true
  | 26 => true
  | 27 => true
  | 28 => true
  | 29 => true
  | 30 => true
  | 32 => true
  | 35 => true
  | 36 => true
  | 37 => true
  | 38 => true
  | 40 => true
  | 41 => true
  | 42 => true
  | 43 => true
  | 46 => true
  | 47 => true
  | 48 => true
  | 49 => true
  | 50 => true
  | 51 => true
  | 53 => true
  | 54 => true
  | 55 => true
  | 56 => true
  | 57 => true
  | 58 => true
  | 59 => true
  | 60 => true
  | 61 => true
  | 62 => true
  | 63 => true
  | 64 => true
  | 65 => true
  | _ => false
def kmUB (b j : Nat) : Bool := match b with
  | 0 => j == 0 || j == 19 || j == 21 || j == 24 || j == 31 || j == 32 || j == 39 || j == 50 || j == 53
  | 1 => true
  | 2 => true
  | 3 => true
  | 4 => true
  | 5 => true
  | 9 => true
  | 10 => true
  | 12 => true
  | 13 => true
  | 14 => true
  | 17 => true
  | 18 => true
  | 19 => true
  | 20 => true
  | 22 => true
  | 23 => true
  | 24 => true
  | 25 => true
  | 26 => true
  | 27 => true
  | 30 => true
  | 31 => true
  | 32 => true
  | 33 => true
  | 34 => true
  | 35 => true
  | 36 => true
  | 37 => true
  | 38 => true
  | _ => false
theorem leB_kcRLo : ∀ b j, kcRLo b j = true → kcUB b j = true := by
  intro b j q
  unfold kcRLo at q
  split at q
  · simp only [Bool.or_eq_true, beq_iff_eq] at q
    subst q
    rfl
  · rfl
  · rfl
  · rfl
  · rfl
  · rfl
  · cases q
theorem leB_kmRLo : ∀ b j, kmRLo b j = true → kmUB b j = true := by
  intro b j q
  unfold kmRLo at q
  split at q
  · simp only [Bool.or_eq_true, beq_iff_eq] at q
    subst q
    rfl
  · rfl
  · rfl
  · rfl
  · rfl
  · rfl
  · cases q
theorem leB_kcRT : ∀ b j, kcRT b j = true → kcUB b j = true := by
  intro b j q
  unfold kcRT at q
  split at q
  · simp only [Bool.or_eq_true, beq_iff_eq] at q
    subst q
    rfl
  · rfl
  · cases q
theorem leB_kmRT : ∀ b j, kmRT b j = true → kmUB b j = true := by
  intro b j q
  unfold kmRT at q
  split at q
  · simp only [Bool.or_eq_true, beq_iff_eq] at q
    subst q
    rfl
  · rfl
  · cases q
theorem leB_kcRW : ∀ b j, kcRW b j = true → kcUB b j = true := by
  intro b j q
  unfold kcRW at q
  split at q
  · simp only [Bool.or_eq_true, beq_iff_eq] at q
    subst q
    rfl
  · rfl
  · cases q
theorem leB_kmRW : ∀ b j, kmRW b j = true → kmUB b j = true := by
  intro b j q
  unfold kmRW at q
  split at q
  · simp only [Bool.or_eq_true, beq_iff_eq] at q
    subst q
    rfl
  · rfl
  · cases q
theorem leB_kcRK : ∀ b j, kcRK b j = true → kcUB b j = true := by
  intro b j q
  unfold kcRK at q
  split at q
  · simp only [Bool.or_eq_true, beq_iff_eq] at q
    rcases q with rfl | rfl <;> rfl
  · rfl
  · rfl
  · rfl
  · cases q
theorem leB_kmRK : ∀ b j, kmRK b j = true → kmUB b j = true := by
  intro b j q
  unfold kmRK at q
  split at q
  · simp only [Bool.or_eq_true, beq_iff_eq] at q
    rcases q with rfl | rfl <;> rfl
  · rfl
  · rfl
  · rfl
  · cases q
theorem leB_kcRP : ∀ b j, kcRP b j = true → kcUB b j = true := by
  intro b j q
  unfold kcRP at q
  split at q
  · simp only [Bool.or_eq_true, beq_iff_eq] at q
    subst q
    rfl
  · rfl
  · rfl
  · rfl
  · rfl
  · cases q
theorem leB_kmRP : ∀ b j, kmRP b j = true → kmUB b j = true := by
  intro b j q
  unfold kmRP at q
  split at q
  · simp only [Bool.or_eq_true, beq_iff_eq] at q
    subst q
    rfl
  · rfl
  · rfl
  · rfl
  · rfl
  · cases q
theorem leB_kcRG : ∀ b j, kcRG b j = true → kcUB b j = true := by
  intro b j q
  unfold kcRG at q
  split at q
  · simp only [Bool.or_eq_true, beq_iff_eq] at q
    rcases q with rfl | rfl <;> rfl
  · rfl
  · rfl
  · rfl
  · rfl
  · rfl
  · rfl
  · rfl
  · rfl
  · rfl
  · rfl
  · rfl
  · rfl
  · rfl
  · rfl
  · rfl
  · rfl
  · cases q
theorem leB_kmRG : ∀ b j, kmRG b j = true → kmUB b j = true := by
  intro b j q
  unfold kmRG at q
  split at q
  · simp only [Bool.or_eq_true, beq_iff_eq] at q
    rcases q with (rfl | rfl) | rfl <;> rfl
  · rfl
  · rfl
  · rfl
  · rfl
  · rfl
  · rfl
  · rfl
  · rfl
  · cases q
theorem leB_kcRS : ∀ b j, kcRS b j = true → kcUB b j = true := by
  intro b j q
  unfold kcRS at q
  split at q
  · rfl
  · rfl
  · rfl
  · cases q
theorem leB_kmRS : ∀ b j, kmRS b j = true → kmUB b j = true := by
  intro b j q
  unfold kmRS at q
  split at q
  · rfl
  · rfl
  · rfl
  · cases q
theorem leB_kcRE : ∀ b j, kcRE b j = true → kcUB b j = true := by
  intro b j q
  unfold kcRE at q
  split at q
  · rfl
  · rfl
  · rfl
  · rfl
  · rfl
  · rfl
  · rfl
  · cases q
theorem leB_kmRE : ∀ b j, kmRE b j = true → kmUB b j = true := by
  intro b j q
  unfold kmRE at q
  split at q
  · rfl
  · rfl
  · rfl
  · rfl
  · rfl
  · rfl
  · cases q
theorem leB_kcRA : ∀ b j, kcRA b j = true → kcUB b j = true := by
  intro b j q
  unfold kcRA at q
  split at q
  · simp only [Bool.or_eq_true, beq_iff_eq] at q
    subst q
    rfl
  · rfl
  · cases q
theorem leB_kmRA : ∀ b j, kmRA b j = true → kmUB b j = true := by
  intro b j q
  unfold kmRA at q
  split at q
  · simp only [Bool.or_eq_true, beq_iff_eq] at q
    subst q
    rfl
  · rfl
  · rfl
  · cases q
theorem leB_kmIL : ∀ b j, kmIL b j = true → kmUB b j = true := by
  intro b j q
  unfold kmIL at q
  split at q
  · simp only [Bool.or_eq_true, beq_iff_eq] at q
    subst q
    rfl
  · rfl
  · rfl
  · rfl
  · rfl
  · rfl
  · cases q
theorem leB_kmIP : ∀ b j, kmIP b j = true → kmUB b j = true := by
  intro b j q
  unfold kmIP at q
  split at q
  · simp only [Bool.or_eq_true, beq_iff_eq] at q
    rcases q with rfl | rfl <;> rfl
  · rfl
  · rfl
  · rfl
  · rfl
  · rfl
  · cases q
theorem leB_kmIS : ∀ b j, kmIS b j = true → kmUB b j = true := by
  intro b j q
  unfold kmIS at q
  split at q
  · simp only [Bool.or_eq_true, beq_iff_eq] at q
    subst q
    rfl
  · rfl
  · rfl
  · rfl
  · cases q
theorem leB_kmIE : ∀ b j, kmIE b j = true → kmUB b j = true := by
  intro b j q
  unfold kmIE at q
  split at q
  · simp only [Bool.or_eq_true, beq_iff_eq] at q
    subst q
    rfl
  · rfl
  · rfl
  · rfl
  · rfl
  · rfl
  · cases q
theorem RR_upB {hc hc' hm hm' : HS} (ec : ∀ b j, kcUB b j = true → gI hc' b j = gI hc b j) (em : ∀ b j, kmUB b j = true → gI hm' b j = gI hm b j) (nRB : RB hc' hm') (nIB : IB hm') (H : RR hc hm) : RR hc' hm' := by
  obtain ⟨⟨h1, h2, h3, h4, h5, h6, h7, h8, h9, h10⟩, ⟨i1, i2, i3, i4, i5⟩, p⟩ := H
  exact ⟨⟨RLo_cg (cg_le leB_kcRLo ec) (cg_le leB_kmRLo em) h1, nRB, RT_cg (cg_le leB_kcRT ec) (cg_le leB_kmRT em) h3, RW_cg (cg_le leB_kcRW ec) (cg_le leB_kmRW em) h4, RK_cg (cg_le leB_kcRK ec) (cg_le leB_kmRK em) h5, RP_cg (cg_le leB_kcRP ec) (cg_le leB_kmRP em) h6, RG_cg (cg_le leB_kcRG ec) (cg_le leB_kmRG em) h7, RS_cg (cg_le leB_kcRS ec) (cg_le leB_kmRS em) h8, RE_cg (cg_le leB_kcRE ec) (cg_le leB_kmRE em) h9, RA_cg (cg_le leB_kcRA ec) (cg_le leB_kmRA em) h10⟩, ⟨IL_cg (cg_le leB_kmIL em) i1, nIB, IP_cg (cg_le leB_kmIP em) i3, IS_cg (cg_le leB_kmIS em) i4, IE_cg (cg_le leB_kmIE em) i5⟩, (em 0 24 rfl).trans p⟩
def kcUT (b j : Nat) : Bool := match b with
  | 1 => j == 2 || j == 3 || j == 4 || j == 6 || j == 7 || j == 8
  | 2 => j == 7 || j == 8
  | 3 => j == 2 || j == 3 || j == 4
  | 4 => j == 1
  | 5 => j == 4 || j == 5
  | 6 => j == 3
  | 8 => j == 3 || j == 6
  | 17 => true
  | 19 => true
  | 20 => true
  | 21 => true
  | 22 => true
  | 23 => true
  | 24 => true
  | 25 => true
  | 26 => true
  | 27 => true
  | 28 => true
  | 29 => true
  | 30 => true
  | 32 => true
  | 33 => true
  | 34 => true
  | 35 => true
  | 36 => true
  | 37 => true
  | 38 => true
  | 40 => true
  | 41 => true
  | 42 => true
  | 43 => true
  | 46 => true
  | 47 => true
  | 48 => true
  | 49 => true
  | 50 => true
  | 51 => true
  | 53 => true
  | 54 => true
  | 55 => true
  | 56 => true
  | 57 => true
  | 58 => true
  | 59 => true
  | 60 => true
  | 61 => true
  | 62 => true
  | 63 => true
  | 64 => true
  | 65 => true
  | _ => false
def kmUT (b j : Nat) : Bool := match b with
  | 0 => j == 0 || j == 6 || j == 7 || j == 8 || j == 9 || j == 10 || j == 11 || j == 15 || j == 16 || j == 17 || j == 21 || j == 24 || j == 31 || j == 32 || j == 39 || j == 50 || j == 53
  | 1 => true
  | 2 => true
  | 3 => true
  | 4 => true
  | 5 => true
  | 6 => true
  | 7 => true
  | 8 => true
  | 10 => true
  | 12 => true
  | 13 => true
  | 14 => true
  | 17 => true
  | 18 => true
  | 19 => true
  | 20 => true
  | 22 => true
  | 23 => true
  | 24 => true
  | 25 => true
  | 26 => true
  | 27 => true
  | 30 => true
  | 31 => true
  | 32 => true
  | 33 => true
  | 34 => true
  | 35 => true
  | 36 => true
  | 37 => true
  | 38 => true
  | _ => false
theorem leT_kcRLo : ∀ b j, kcRLo b j = true → kcUT b j = true := by
  intro b j q
  unfold kcRLo at q
  split at q
  · simp only [Bool.or_eq_true, beq_iff_eq] at q
    subst q
    rfl
  · rfl
  · rfl
  · rfl
  · rfl
  · rfl
  · cases q
theorem leT_kmRLo : ∀ b j, kmRLo b j = true → kmUT b j = true := by
  intro b j q
  unfold kmRLo at q
  split at q
  · simp only [Bool.or_eq_true, beq_iff_eq] at q
    subst q
    rfl
  · rfl
  · rfl
  · rfl
  · rfl
  · rfl
  · cases q
theorem leT_kcRB : ∀ b j, kcRB b j = true → kcUT b j = true := by
  intro b j q
  unfold kcRB at q
  split at q
  · simp only [Bool.or_eq_true, beq_iff_eq] at q
    rcases q with ((((rfl | rfl) | rfl) | rfl) | rfl) | rfl <;> rfl
  · simp only [Bool.or_eq_true, beq_iff_eq] at q
    rcases q with (rfl | rfl) | rfl <;> rfl
  · rfl
  · rfl
  · rfl
  · cases q
theorem leT_kmRB : ∀ b j, kmRB b j = true → kmUT b j = true := by
  intro b j q
  unfold kmRB at q
  split at q
  · simp only [Bool.or_eq_true, beq_iff_eq] at q
    rcases q with (((((((rfl | rfl) | rfl) | rfl) | rfl) | rfl) | rfl) | rfl) | rfl <;> rfl
  · rfl
  · rfl
  · rfl
  · cases q
theorem leT_kcRW : ∀ b j, kcRW b j = true → kcUT b j = true := by
  intro b j q
  unfold kcRW at q
  split at q
  · simp only [Bool.or_eq_true, beq_iff_eq] at q
    subst q
    rfl
  · rfl
  · cases q
theorem leT_kmRW : ∀ b j, kmRW b j = true → kmUT b j = true := by
  intro b j q
  unfold kmRW at q
  split at q
  · simp only [Bool.or_eq_true, beq_iff_eq] at q
    subst q
    rfl
  · rfl
  · cases q
theorem leT_kcRK : ∀ b j, kcRK b j = true → kcUT b j = true := by
  intro b j q
  unfold kcRK at q
  split at q
  · simp only [Bool.or_eq_true, beq_iff_eq] at q
    rcases q with rfl | rfl <;> rfl
  · rfl
  · rfl
  · rfl
  · cases q
theorem leT_kmRK : ∀ b j, kmRK b j = true → kmUT b j = true := by
  intro b j q
  unfold kmRK at q
  split at q
  · simp only [Bool.or_eq_true, beq_iff_eq] at q
    rcases q with rfl | rfl <;> rfl
  · rfl
  · rfl
  · rfl
  · cases q
theorem leT_kcRP : ∀ b j, kcRP b j = true → kcUT b j = true := by
  intro b j q
  unfold kcRP at q
  split at q
  · simp only [Bool.or_eq_true, beq_iff_eq] at q
    subst q
    rfl
  · rfl
  · rfl
  · rfl
  · rfl
  · cases q
theorem leT_kmRP : ∀ b j, kmRP b j = true → kmUT b j = true := by
  intro b j q
  unfold kmRP at q
  split at q
  · simp only [Bool.or_eq_true, beq_iff_eq] at q
    subst q
    rfl
  · rfl
  · rfl
  · rfl
  · rfl
  · cases q
theorem leT_kcRG : ∀ b j, kcRG b j = true → kcUT b j = true := by
  intro b j q
  unfold kcRG at q
  split at q
  · simp only [Bool.or_eq_true, beq_iff_eq] at q
    rcases q with rfl | rfl <;> rfl
  · rfl
  · rfl
  · rfl
  · rfl
  · rfl
  · rfl
  · rfl
  · rfl
  · rfl
  · rfl
  · rfl
  · rfl
  · rfl
  · rfl
  · rfl
  · rfl
  · cases q
theorem leT_kmRG : ∀ b j, kmRG b j = true → kmUT b j = true := by
  intro b j q
  unfold kmRG at q
  split at q
  · simp only [Bool.or_eq_true, beq_iff_eq] at q
    rcases q with (rfl | rfl) | rfl <;> rfl
  · rfl
  · rfl
  · rfl
  · rfl
  · rfl
  · rfl
  · rfl
  · rfl
  · cases q
theorem leT_kcRS : ∀ b j, kcRS b j = true → kcUT b j = true := by
  intro b j q
  unfold kcRS at q
  split at q
  · rfl
  · rfl
  · rfl
  · cases q
theorem leT_kmRS : ∀ b j, kmRS b j = true → kmUT b j = true := by
  intro b j q
  unfold kmRS at q
  split at q
  · rfl
  · rfl
  · rfl
  · cases q
theorem leT_kcRE : ∀ b j, kcRE b j = true → kcUT b j = true := by
  intro b j q
  unfold kcRE at q
  split at q
  · rfl
  · rfl
  · rfl
  · rfl
  · rfl
  · rfl
  · rfl
  · cases q
theorem leT_kmRE : ∀ b j, kmRE b j = true → kmUT b j = true := by
  intro b j q
  unfold kmRE at q
  split at q
  · rfl
  · rfl
  · rfl
  · rfl
  · rfl
  · rfl
  · cases q
theorem leT_kcRA : ∀ b j, kcRA b j = true → kcUT b j = true := by
  intro b j q
  unfold kcRA at q
  split at q
  · simp only [Bool.or_eq_true, beq_iff_eq] at q
    subst q
    rfl
  · rfl
  · cases q
theorem leT_kmRA : ∀ b j, kmRA b j = true → kmUT b j = true := by
  intro b j q
  unfold kmRA at q
  split at q
  · simp only [Bool.or_eq_true, beq_iff_eq] at q
    subst q
    rfl
  · rfl
  · rfl
  · cases q
theorem leT_kmIL : ∀ b j, kmIL b j = true → kmUT b j = true := by
  intro b j q
  unfold kmIL at q
  split at q
  · simp only [Bool.or_eq_true, beq_iff_eq] at q
    subst q
    rfl
  · rfl
  · rfl
  · rfl
  · rfl
  · rfl
  · cases q
theorem leT_kmIB : ∀ b j, kmIB b j = true → kmUT b j = true := by
  intro b j q
  unfold kmIB at q
  split at q
  · simp only [Bool.or_eq_true, beq_iff_eq] at q
    rcases q with (((((rfl | rfl) | rfl) | rfl) | rfl) | rfl) | rfl <;> rfl
  · rfl
  · rfl
  · rfl
  · cases q
theorem leT_kmIP : ∀ b j, kmIP b j = true → kmUT b j = true := by
  intro b j q
  unfold kmIP at q
  split at q
  · simp only [Bool.or_eq_true, beq_iff_eq] at q
    rcases q with rfl | rfl <;> rfl
  · rfl
  · rfl
  · rfl
  · rfl
  · rfl
  · cases q
theorem leT_kmIS : ∀ b j, kmIS b j = true → kmUT b j = true := by
  intro b j q
  unfold kmIS at q
  split at q
  · simp only [Bool.or_eq_true, beq_iff_eq] at q
    subst q
    rfl
  · rfl
  · rfl
  · rfl
  · cases q
theorem leT_kmIE : ∀ b j, kmIE b j = true → kmUT b j = true := by
  intro b j q
  unfold kmIE at q
  split at q
  · simp only [Bool.or_eq_true, beq_iff_eq] at q
    subst q
    rfl
  · rfl
  · rfl
  · rfl
  · rfl
  · rfl
  · cases q
theorem RR_upT {hc hc' hm hm' : HS} (ec : ∀ b j, kcUT b j = true → gI hc' b j = gI hc b j) (em : ∀ b j, kmUT b j = true → gI hm' b j = gI hm b j) (nRT : RT hc' hm') (H : RR hc hm) : RR hc' hm' := by
  obtain ⟨⟨h1, h2, h3, h4, h5, h6, h7, h8, h9, h10⟩, ⟨i1, i2, i3, i4, i5⟩, p⟩ := H
  exact ⟨⟨RLo_cg (cg_le leT_kcRLo ec) (cg_le leT_kmRLo em) h1, RB_cg (cg_le leT_kcRB ec) (cg_le leT_kmRB em) h2, nRT, RW_cg (cg_le leT_kcRW ec) (cg_le leT_kmRW em) h4, RK_cg (cg_le leT_kcRK ec) (cg_le leT_kmRK em) h5, RP_cg (cg_le leT_kcRP ec) (cg_le leT_kmRP em) h6, RG_cg (cg_le leT_kcRG ec) (cg_le leT_kmRG em) h7, RS_cg (cg_le leT_kcRS ec) (cg_le leT_kmRS em) h8, RE_cg (cg_le leT_kcRE ec) (cg_le leT_kmRE em) h9, RA_cg (cg_le leT_kcRA ec) (cg_le leT_kmRA em) h10⟩, ⟨IL_cg (cg_le leT_kmIL em) i1, IB_cg (cg_le leT_kmIB em) i2, IP_cg (cg_le leT_kmIP em) i3, IS_cg (cg_le leT_kmIS em) i4, IE_cg (cg_le leT_kmIE em) i5⟩, (em 0 24 rfl).trans p⟩
def kcUW (b j : Nat) : Bool := match b with
  | 0 => j == 5
  | 1 => j == 2 || j == 3 || j == 4 || j == 6 || j == 7 || j == 8
  | 2 => j == 7 || j == 8
  | 3 => j == 2 || j == 3 || j == 4
  | 5 => j == 4 || j == 5
  | 6 => j == 3
  | 8 => j == 3 || j == 6
  | 16 => true
  | 17 => true
  | 19 => true
  | 20 => true
  | 21 => true
  | 22 => true
  | 23 => true
  | 24 => true
  | 25 => true
  | 26 => true
  | 27 => true
  | 28 => true
  | 29 => true
  | 30 => true
  | 32 => true
  | 33 => true
  | 34 => true
  | 36 => true
  | 37 => true
  | 38 => true
  | 40 => true
  | 41 => true
  | 42 => true
  | 43 => true
  | 46 => true
  | 47 => true
  | 48 => true
  | 49 => true
  | 50 => true
  | 51 => true
  | 53 => true
  | 54 => true
  | 55 => true
  | 56 => true
  | 57 => true
  | 58 => true
  | 59 => true
  | 60 => true
  | 61 => true
  | 62 => true
  | 63 => true
  | 64 => true
  | 65 => true
  | _ => false
def kmUW (b j : Nat) : Bool := match b with
  | 0 => j == 0 || j == 6 || j == 7 || j == 8 || j == 9 || j == 10 || j == 11 || j == 15 || j == 16 || j == 17 || j == 19 || j == 24 || j == 31 || j == 32 || j == 39 || j == 50 || j == 53
  | 1 => true
  | 2 => true
  | 3 => true
  | 4 => true
  | 5 => true
  | 6 => true
  | 7 => true
  | 8 => true
  | 9 => true
  | 12 => true
  | 13 => true
  | 14 => true
  | 17 => true
  | 18 => true
  | 19 => true
  | 20 => true
  | 22 => true
  | 23 => true
  | 24 => true
  | 25 => true
  | 26 => true
  | 27 => true
  | 30 => true
  | 31 => true
  | 32 => true
  | 33 => true
  | 34 => true
  | 35 => true
  | 36 => true
  | 37 => true
  | 38 => true
  | _ => false
theorem leW_kcRLo : ∀ b j, kcRLo b j = true → kcUW b j = true := by
  intro b j q
  unfold kcRLo at q
  split at q
  · simp only [Bool.or_eq_true, beq_iff_eq] at q
    subst q
    rfl
  · rfl
  · rfl
  · rfl
  · rfl
  · rfl
  · cases q
theorem leW_kmRLo : ∀ b j, kmRLo b j = true → kmUW b j = true := by
  intro b j q
  unfold kmRLo at q
  split at q
  · simp only [Bool.or_eq_true, beq_iff_eq] at q
    subst q
    rfl
  · rfl
  · rfl
  · rfl
  · rfl
  · rfl
  · cases q
theorem leW_kcRB : ∀ b j, kcRB b j = true → kcUW b j = true := by
  intro b j q
  unfold kcRB at q
  split at q
  · simp only [Bool.or_eq_true, beq_iff_eq] at q
    rcases q with ((((rfl | rfl) | rfl) | rfl) | rfl) | rfl <;> rfl
  · simp only [Bool.or_eq_true, beq_iff_eq] at q
    rcases q with (rfl | rfl) | rfl <;> rfl
  · rfl
  · rfl
  · rfl
  · cases q
theorem leW_kmRB : ∀ b j, kmRB b j = true → kmUW b j = true := by
  intro b j q
  unfold kmRB at q
  split at q
  · simp only [Bool.or_eq_true, beq_iff_eq] at q
    rcases q with (((((((rfl | rfl) | rfl) | rfl) | rfl) | rfl) | rfl) | rfl) | rfl <;> rfl
  · rfl
  · rfl
  · rfl
  · cases q
theorem leW_kcRT : ∀ b j, kcRT b j = true → kcUW b j = true := by
  intro b j q
  unfold kcRT at q
  split at q
  · simp only [Bool.or_eq_true, beq_iff_eq] at q
    subst q
    rfl
  · rfl
  · cases q
theorem leW_kmRT : ∀ b j, kmRT b j = true → kmUW b j = true := by
  intro b j q
  unfold kmRT at q
  split at q
  · simp only [Bool.or_eq_true, beq_iff_eq] at q
    subst q
    rfl
  · rfl
  · cases q
theorem leW_kcRK : ∀ b j, kcRK b j = true → kcUW b j = true := by
  intro b j q
  unfold kcRK at q
  split at q
  · simp only [Bool.or_eq_true, beq_iff_eq] at q
    rcases q with rfl | rfl <;> rfl
  · rfl
  · rfl
  · rfl
  · cases q
theorem leW_kmRK : ∀ b j, kmRK b j = true → kmUW b j = true := by
  intro b j q
  unfold kmRK at q
  split at q
  · simp only [Bool.or_eq_true, beq_iff_eq] at q
    rcases q with rfl | rfl <;> rfl
  · rfl
  · rfl
  · rfl
  · cases q
theorem leW_kcRP : ∀ b j, kcRP b j = true → kcUW b j = true := by
  intro b j q
  unfold kcRP at q
  split at q
  · simp only [Bool.or_eq_true, beq_iff_eq] at q
    subst q
    rfl
  · rfl
  · rfl
  · rfl
  · rfl
  · cases q
theorem leW_kmRP : ∀ b j, kmRP b j = true → kmUW b j = true := by
  intro b j q
  unfold kmRP at q
  split at q
  · simp only [Bool.or_eq_true, beq_iff_eq] at q
    subst q
    rfl
  · rfl
  · rfl
  · rfl
  · rfl
  · cases q
theorem leW_kcRG : ∀ b j, kcRG b j = true → kcUW b j = true := by
  intro b j q
  unfold kcRG at q
  split at q
  · simp only [Bool.or_eq_true, beq_iff_eq] at q
    rcases q with rfl | rfl <;> rfl
  · rfl
  · rfl
  · rfl
  · rfl
  · rfl
  · rfl
  · rfl
  · rfl
  · rfl
  · rfl
  · rfl
  · rfl
  · rfl
  · rfl
  · rfl
  · rfl
  · cases q
theorem leW_kmRG : ∀ b j, kmRG b j = true → kmUW b j = true := by
  intro b j q
  unfold kmRG at q
  split at q
  · simp only [Bool.or_eq_true, beq_iff_eq] at q
    rcases q with (rfl | rfl) | rfl <;> rfl
  · rfl
  · rfl
  · rfl
  · rfl
  · rfl
  · rfl
  · rfl
  · rfl
  · cases q
theorem leW_kcRS : ∀ b j, kcRS b j = true → kcUW b j = true := by
  intro b j q
  unfold kcRS at q
  split at q
  · rfl
  · rfl
  · rfl
  · cases q
theorem leW_kmRS : ∀ b j, kmRS b j = true → kmUW b j = true := by
  intro b j q
  unfold kmRS at q
  split at q
  · rfl
  · rfl
  · rfl
  · cases q
theorem leW_kcRE : ∀ b j, kcRE b j = true → kcUW b j = true := by
  intro b j q
  unfold kcRE at q
  split at q
  · rfl
  · rfl
  · rfl
  · rfl
  · rfl
  · rfl
  · rfl
  · cases q
theorem leW_kmRE : ∀ b j, kmRE b j = true → kmUW b j = true := by
  intro b j q
  unfold kmRE at q
  split at q
  · rfl
  · rfl
  · rfl
  · rfl
  · rfl
  · rfl
  · cases q
theorem leW_kcRA : ∀ b j, kcRA b j = true → kcUW b j = true := by
  intro b j q
  unfold kcRA at q
  split at q
  · simp only [Bool.or_eq_true, beq_iff_eq] at q
    subst q
    rfl
  · rfl
  · cases q
theorem leW_kmRA : ∀ b j, kmRA b j = true → kmUW b j = true := by
  intro b j q
  unfold kmRA at q
  split at q
  · simp only [Bool.or_eq_true, beq_iff_eq] at q
    subst q
    rfl
  · rfl
  · rfl
  · cases q
theorem leW_kmIL : ∀ b j, kmIL b j = true → kmUW b j = true := by
  intro b j q
  unfold kmIL at q
  split at q
  · simp only [Bool.or_eq_true, beq_iff_eq] at q
    subst q
    rfl
  · rfl
  · rfl
  · rfl
  · rfl
  · rfl
  · cases q
theorem leW_kmIB : ∀ b j, kmIB b j = true → kmUW b j = true := by
  intro b j q
  unfold kmIB at q
  split at q
  · simp only [Bool.or_eq_true, beq_iff_eq] at q
    rcases q with (((((rfl | rfl) | rfl) | rfl) | rfl) | rfl) | rfl <;> rfl
  · rfl
  · rfl
  · rfl
  · cases q
theorem leW_kmIP : ∀ b j, kmIP b j = true → kmUW b j = true := by
  intro b j q
  unfold kmIP at q
  split at q
  · simp only [Bool.or_eq_true, beq_iff_eq] at q
    rcases q with rfl | rfl <;> rfl
  · rfl
  · rfl
  · rfl
  · rfl
  · rfl
  · cases q
theorem leW_kmIS : ∀ b j, kmIS b j = true → kmUW b j = true := by
  intro b j q
  unfold kmIS at q
  split at q
  · simp only [Bool.or_eq_true, beq_iff_eq] at q
    subst q
    rfl
  · rfl
  · rfl
  · rfl
  · cases q
theorem leW_kmIE : ∀ b j, kmIE b j = true → kmUW b j = true := by
  intro b j q
  unfold kmIE at q
  split at q
  · simp only [Bool.or_eq_true, beq_iff_eq] at q
    subst q
    rfl
  · rfl
  · rfl
  · rfl
  · rfl
  · rfl
  · cases q
theorem RR_upW {hc hc' hm hm' : HS} (ec : ∀ b j, kcUW b j = true → gI hc' b j = gI hc b j) (em : ∀ b j, kmUW b j = true → gI hm' b j = gI hm b j) (nRW : RW hc' hm') (H : RR hc hm) : RR hc' hm' := by
  obtain ⟨⟨h1, h2, h3, h4, h5, h6, h7, h8, h9, h10⟩, ⟨i1, i2, i3, i4, i5⟩, p⟩ := H
  exact ⟨⟨RLo_cg (cg_le leW_kcRLo ec) (cg_le leW_kmRLo em) h1, RB_cg (cg_le leW_kcRB ec) (cg_le leW_kmRB em) h2, RT_cg (cg_le leW_kcRT ec) (cg_le leW_kmRT em) h3, nRW, RK_cg (cg_le leW_kcRK ec) (cg_le leW_kmRK em) h5, RP_cg (cg_le leW_kcRP ec) (cg_le leW_kmRP em) h6, RG_cg (cg_le leW_kcRG ec) (cg_le leW_kmRG em) h7, RS_cg (cg_le leW_kcRS ec) (cg_le leW_kmRS em) h8, RE_cg (cg_le leW_kcRE ec) (cg_le leW_kmRE em) h9, RA_cg (cg_le leW_kcRA ec) (cg_le leW_kmRA em) h10⟩, ⟨IL_cg (cg_le leW_kmIL em) i1, IB_cg (cg_le leW_kmIB em) i2, IP_cg (cg_le leW_kmIP em) i3, IS_cg (cg_le leW_kmIS em) i4, IE_cg (cg_le leW_kmIE em) i5⟩, (em 0 24 rfl).trans p⟩
def kcUK (b j : Nat) : Bool := match b with
  | 0 => j == 5
  | 1 => j == 2 || j == 3 || j == 4 || j == 6 || j == 7 || j == 8
  | 2 => j == 7 || j == 8
  | 3 => j == 2 || j == 3 || j == 4
  | 4 => j == 1
  | 6 => j == 3
  | 8 => j == 3 || j == 6
  | 16 => true
  | 17 => true
  | 19 => true
  | 20 => true
  | 21 => true
  | 22 => true
  | 23 => true
  | 24 => true
  | 25 => true
  | 26 => true
  | 27 => true
  | 28 => true
  | 29 => true
  | 30 => true
  | 32 => true
  | 33 => true
  | 34 => true
  | 35 => true
  | 40 => true
  | 41 => true
  | 42 => true
  | 43 => true
  | 46 => true
  | 47 => true
  | 48 => true
  | 49 => true
  | 50 => true
  | 51 => true
  | 53 => true
  | 54 => true
  | 55 => true
  | 56 => true
  | 57 => true
  | 58 => true
  | 59 => true
  | 60 => true
  | 61 => true
  | 62 => true
  | 63 => true
  | 64 => true
  | 65 => true
  | _ => false
def kmUK (b j : Nat) : Bool := match b with
  | 0 => j == 0 || j == 6 || j == 7 || j == 8 || j == 9 || j == 10 || j == 11 || j == 15 || j == 16 || j == 17 || j == 19 || j == 21 || j == 24 || j == 39 || j == 50 || j == 53
  | 1 => true
  | 2 => true
  | 3 => true
  | 4 => true
  | 5 => true
  | 6 => true
  | 7 => true
  | 8 => true
  | 9 => true
  | 10 => true
  | 17 => true
  | 18 => true
  | 19 => true
  | 20 => true
  | 22 => true
  | 23 => true
  | 24 => true
  | 25 => true
  | 26 => true
  | 27 => true
  | 30 => true
  | 31 => true
  | 32 => true
  | 33 => true
  | 34 => true
  | 35 => true
  | 36 => true
  | 37 => true
  | 38 => true
  | _ => false
theorem leK_kcRLo : ∀ b j, kcRLo b j = true → kcUK b j = true := by
  intro b j q
  unfold kcRLo at q
  split at q
  · simp only [Bool.or_eq_true, beq_iff_eq] at q
    subst q
    rfl
  · rfl
  · rfl
  · rfl
  · rfl
  · rfl
  · cases q
theorem leK_kmRLo : ∀ b j, kmRLo b j = true → kmUK b j = true := by
  intro b j q
  unfold kmRLo at q
  split at q
  · simp only [Bool.or_eq_true, beq_iff_eq] at q
    subst q
    rfl
  · rfl
  · rfl
  · rfl
  · rfl
  · rfl
  · cases q
theorem leK_kcRB : ∀ b j, kcRB b j = true → kcUK b j = true := by
  intro b j q
  unfold kcRB at q
  split at q
  · simp only [Bool.or_eq_true, beq_iff_eq] at q
    rcases q with ((((rfl | rfl) | rfl) | rfl) | rfl) | rfl <;> rfl
  · simp only [Bool.or_eq_true, beq_iff_eq] at q
    rcases q with (rfl | rfl) | rfl <;> rfl
  · rfl
  · rfl
  · rfl
  · cases q
theorem leK_kmRB : ∀ b j, kmRB b j = true → kmUK b j = true := by
  intro b j q
  unfold kmRB at q
  split at q
  · simp only [Bool.or_eq_true, beq_iff_eq] at q
    rcases q with (((((((rfl | rfl) | rfl) | rfl) | rfl) | rfl) | rfl) | rfl) | rfl <;> rfl
  · rfl
  · rfl
  · rfl
  · cases q
theorem leK_kcRT : ∀ b j, kcRT b j = true → kcUK b j = true := by
  intro b j q
  unfold kcRT at q
  split at q
  · simp only [Bool.or_eq_true, beq_iff_eq] at q
    subst q
    rfl
  · rfl
  · cases q
theorem leK_kmRT : ∀ b j, kmRT b j = true → kmUK b j = true := by
  intro b j q
  unfold kmRT at q
  split at q
  · simp only [Bool.or_eq_true, beq_iff_eq] at q
    subst q
    rfl
  · rfl
  · cases q
theorem leK_kcRW : ∀ b j, kcRW b j = true → kcUK b j = true := by
  intro b j q
  unfold kcRW at q
  split at q
  · simp only [Bool.or_eq_true, beq_iff_eq] at q
    subst q
    rfl
  · rfl
  · cases q
theorem leK_kmRW : ∀ b j, kmRW b j = true → kmUK b j = true := by
  intro b j q
  unfold kmRW at q
  split at q
  · simp only [Bool.or_eq_true, beq_iff_eq] at q
    subst q
    rfl
  · rfl
  · cases q
theorem leK_kcRP : ∀ b j, kcRP b j = true → kcUK b j = true := by
  intro b j q
  unfold kcRP at q
  split at q
  · simp only [Bool.or_eq_true, beq_iff_eq] at q
    subst q
    rfl
  · rfl
  · rfl
  · rfl
  · rfl
  · cases q
theorem leK_kmRP : ∀ b j, kmRP b j = true → kmUK b j = true := by
  intro b j q
  unfold kmRP at q
  split at q
  · simp only [Bool.or_eq_true, beq_iff_eq] at q
    subst q
    rfl
  · rfl
  · rfl
  · rfl
  · rfl
  · cases q
theorem leK_kcRG : ∀ b j, kcRG b j = true → kcUK b j = true := by
  intro b j q
  unfold kcRG at q
  split at q
  · simp only [Bool.or_eq_true, beq_iff_eq] at q
    rcases q with rfl | rfl <;> rfl
  · rfl
  · rfl
  · rfl
  · rfl
  · rfl
  · rfl
  · rfl
  · rfl
  · rfl
  · rfl
  · rfl
  · rfl
  · rfl
  · rfl
  · rfl
  · rfl
  · cases q
theorem leK_kmRG : ∀ b j, kmRG b j = true → kmUK b j = true := by
  intro b j q
  unfold kmRG at q
  split at q
  · simp only [Bool.or_eq_true, beq_iff_eq] at q
    rcases q with (rfl | rfl) | rfl <;> rfl
  · rfl
  · rfl
  · rfl
  · rfl
  · rfl
  · rfl
  · rfl
  · rfl
  · cases q
theorem leK_kcRS : ∀ b j, kcRS b j = true → kcUK b j = true := by
  intro b j q
  unfold kcRS at q
  split at q
  · rfl
  · rfl
  · rfl
  · cases q
theorem leK_kmRS : ∀ b j, kmRS b j = true → kmUK b j = true := by
  intro b j q
  unfold kmRS at q
  split at q
  · rfl
  · rfl
  · rfl
  · cases q
theorem leK_kcRE : ∀ b j, kcRE b j = true → kcUK b j = true := by
  intro b j q
  unfold kcRE at q
  split at q
  · rfl
  · rfl
  · rfl
  · rfl
  · rfl
  · rfl
  · rfl
  · cases q
theorem leK_kmRE : ∀ b j, kmRE b j = true → kmUK b j = true := by
  intro b j q
  unfold kmRE at q
  split at q
  · rfl
  · rfl
  · rfl
  · rfl
  · rfl
  · rfl
  · cases q
theorem leK_kcRA : ∀ b j, kcRA b j = true → kcUK b j = true := by
  intro b j q
  unfold kcRA at q
  split at q
  · simp only [Bool.or_eq_true, beq_iff_eq] at q
    subst q
    rfl
  · rfl
  · cases q
theorem leK_kmRA : ∀ b j, kmRA b j = true → kmUK b j = true := by
  intro b j q
  unfold kmRA at q
  split at q
  · simp only [Bool.or_eq_true, beq_iff_eq] at q
    subst q
    rfl
  · rfl
  · rfl
  · cases q
theorem leK_kmIL : ∀ b j, kmIL b j = true → kmUK b j = true := by
  intro b j q
  unfold kmIL at q
  split at q
  · simp only [Bool.or_eq_true, beq_iff_eq] at q
    subst q
    rfl
  · rfl
  · rfl
  · rfl
  · rfl
  · rfl
  · cases q
theorem leK_kmIB : ∀ b j, kmIB b j = true → kmUK b j = true := by
  intro b j q
  unfold kmIB at q
  split at q
  · simp only [Bool.or_eq_true, beq_iff_eq] at q
    rcases q with (((((rfl | rfl) | rfl) | rfl) | rfl) | rfl) | rfl <;> rfl
  · rfl
  · rfl
  · rfl
  · cases q
theorem leK_kmIP : ∀ b j, kmIP b j = true → kmUK b j = true := by
  intro b j q
  unfold kmIP at q
  split at q
  · simp only [Bool.or_eq_true, beq_iff_eq] at q
    rcases q with rfl | rfl <;> rfl
  · rfl
  · rfl
  · rfl
  · rfl
  · rfl
  · cases q
theorem leK_kmIS : ∀ b j, kmIS b j = true → kmUK b j = true := by
  intro b j q
  unfold kmIS at q
  split at q
  · simp only [Bool.or_eq_true, beq_iff_eq] at q
    subst q
    rfl
  · rfl
  · rfl
  · rfl
  · cases q
theorem leK_kmIE : ∀ b j, kmIE b j = true → kmUK b j = true := by
  intro b j q
  unfold kmIE at q
  split at q
  · simp only [Bool.or_eq_true, beq_iff_eq] at q
    subst q
    rfl
  · rfl
  · rfl
  · rfl
  · rfl
  · rfl
  · cases q
theorem RR_upK {hc hc' hm hm' : HS} (ec : ∀ b j, kcUK b j = true → gI hc' b j = gI hc b j) (em : ∀ b j, kmUK b j = true → gI hm' b j = gI hm b j) (nRK : RK hc' hm') (H : RR hc hm) : RR hc' hm' := by
  obtain ⟨⟨h1, h2, h3, h4, h5, h6, h7, h8, h9, h10⟩, ⟨i1, i2, i3, i4, i5⟩, p⟩ := H
  exact ⟨⟨RLo_cg (cg_le leK_kcRLo ec) (cg_le leK_kmRLo em) h1, RB_cg (cg_le leK_kcRB ec) (cg_le leK_kmRB em) h2, RT_cg (cg_le leK_kcRT ec) (cg_le leK_kmRT em) h3, RW_cg (cg_le leK_kcRW ec) (cg_le leK_kmRW em) h4, nRK, RP_cg (cg_le leK_kcRP ec) (cg_le leK_kmRP em) h6, RG_cg (cg_le leK_kcRG ec) (cg_le leK_kmRG em) h7, RS_cg (cg_le leK_kcRS ec) (cg_le leK_kmRS em) h8, RE_cg (cg_le leK_kcRE ec) (cg_le leK_kmRE em) h9, RA_cg (cg_le leK_kcRA ec) (cg_le leK_kmRA em) h10⟩, ⟨IL_cg (cg_le leK_kmIL em) i1, IB_cg (cg_le leK_kmIB em) i2, IP_cg (cg_le leK_kmIP em) i3, IS_cg (cg_le leK_kmIS em) i4, IE_cg (cg_le leK_kmIE em) i5⟩, (em 0 24 rfl).trans p⟩
def kcUP (b j : Nat) : Bool := match b with
  | 0 => j == 5
  | 1 => j == 2 || j == 3 || j == 4 || j == 6 || j == 7 || j == 8
  | 2 => j == 7 || j == 8
  | 3 => j == 2 || j == 3 || j == 4
  | 4 => j == 1
  | 5 => j == 4 || j == 5
  | 8 => j == 3 || j == 6
  | 16 => true
  | 17 => true
  | 19 => true
  | 20 => true
  | 21 => true
  | 22 => true
  | 23 => true
  | 24 => true
  | 25 => true
  | 26 => true
  | 27 => true
  | 28 => true
  | 29 => true
  | 30 => true
  | 32 => true
  | 33 => true
  | 34 => true
  | 35 => true
  | 36 => true
  | 37 => true
  | 38 => true
  | 46 => true
  | 47 => true
  | 48 => true
  | 49 => true
  | 50 => true
  | 51 => true
  | 53 => true
  | 54 => true
  | 55 => true
  | 56 => true
  | 57 => true
  | 58 => true
  | 59 => true
  | 60 => true
  | 61 => true
  | 62 => true
  | 63 => true
  | 64 => true
  | 65 => true
  | _ => false
def kmUP (b j : Nat) : Bool := match b with
  | 0 => j == 0 || j == 6 || j == 7 || j == 8 || j == 9 || j == 10 || j == 11 || j == 15 || j == 16 || j == 17 || j == 19 || j == 21 || j == 24 || j == 31 || j == 32 || j == 50 || j == 53
  | 1 => true
  | 2 => true
  | 3 => true
  | 4 => true
  | 5 => true
  | 6 => true
  | 7 => true
  | 8 => true
  | 9 => true
  | 10 => true
  | 12 => true
  | 13 => true
  | 14 => true
  | 22 => true
  | 23 => true
  | 24 => true
  | 25 => true
  | 26 => true
  | 27 => true
  | 30 => true
  | 31 => true
  | 32 => true
  | 33 => true
  | 34 => true
  | 35 => true
  | 36 => true
  | 37 => true
  | 38 => true
  | _ => false
theorem leP_kcRLo : ∀ b j, kcRLo b j = true → kcUP b j = true := by
  intro b j q
  unfold kcRLo at q
  split at q
  · simp only [Bool.or_eq_true, beq_iff_eq] at q
    subst q
    rfl
  · rfl
  · rfl
  · rfl
  · rfl
  · rfl
  · cases q
theorem leP_kmRLo : ∀ b j, kmRLo b j = true → kmUP b j = true := by
  intro b j q
  unfold kmRLo at q
  split at q
  · simp only [Bool.or_eq_true, beq_iff_eq] at q
    subst q
    rfl
  · rfl
  · rfl
  · rfl
  · rfl
  · rfl
  · cases q
theorem leP_kcRB : ∀ b j, kcRB b j = true → kcUP b j = true := by
  intro b j q
  unfold kcRB at q
  split at q
  · simp only [Bool.or_eq_true, beq_iff_eq] at q
    rcases q with ((((rfl | rfl) | rfl) | rfl) | rfl) | rfl <;> rfl
  · simp only [Bool.or_eq_true, beq_iff_eq] at q
    rcases q with (rfl | rfl) | rfl <;> rfl
  · rfl
  · rfl
  · rfl
  · cases q
theorem leP_kmRB : ∀ b j, kmRB b j = true → kmUP b j = true := by
  intro b j q
  unfold kmRB at q
  split at q
  · simp only [Bool.or_eq_true, beq_iff_eq] at q
    rcases q with (((((((rfl | rfl) | rfl) | rfl) | rfl) | rfl) | rfl) | rfl) | rfl <;> rfl
  · rfl
  · rfl
  · rfl
  · cases q
theorem leP_kcRT : ∀ b j, kcRT b j = true → kcUP b j = true := by
  intro b j q
  unfold kcRT at q
  split at q
  · simp only [Bool.or_eq_true, beq_iff_eq] at q
    subst q
    rfl
  · rfl
  · cases q
theorem leP_kmRT : ∀ b j, kmRT b j = true → kmUP b j = true := by
  intro b j q
  unfold kmRT at q
  split at q
  · simp only [Bool.or_eq_true, beq_iff_eq] at q
    subst q
    rfl
  · rfl
  · cases q
theorem leP_kcRW : ∀ b j, kcRW b j = true → kcUP b j = true := by
  intro b j q
  unfold kcRW at q
  split at q
  · simp only [Bool.or_eq_true, beq_iff_eq] at q
    subst q
    rfl
  · rfl
  · cases q
theorem leP_kmRW : ∀ b j, kmRW b j = true → kmUP b j = true := by
  intro b j q
  unfold kmRW at q
  split at q
  · simp only [Bool.or_eq_true, beq_iff_eq] at q
    subst q
    rfl
  · rfl
  · cases q
theorem leP_kcRK : ∀ b j, kcRK b j = true → kcUP b j = true := by
  intro b j q
  unfold kcRK at q
  split at q
  · simp only [Bool.or_eq_true, beq_iff_eq] at q
    rcases q with rfl | rfl <;> rfl
  · rfl
  · rfl
  · rfl
  · cases q
theorem leP_kmRK : ∀ b j, kmRK b j = true → kmUP b j = true := by
  intro b j q
  unfold kmRK at q
  split at q
  · simp only [Bool.or_eq_true, beq_iff_eq] at q
    rcases q with rfl | rfl <;> rfl
  · rfl
  · rfl
  · rfl
  · cases q
theorem leP_kcRG : ∀ b j, kcRG b j = true → kcUP b j = true := by
  intro b j q
  unfold kcRG at q
  split at q
  · simp only [Bool.or_eq_true, beq_iff_eq] at q
    rcases q with rfl | rfl <;> rfl
  · rfl
  · rfl
  · rfl
  · rfl
  · rfl
  · rfl
  · rfl
  · rfl
  · rfl
  · rfl
  · rfl
  · rfl
  · rfl
  · rfl
  · rfl
  · rfl
  · cases q
theorem leP_kmRG : ∀ b j, kmRG b j = true → kmUP b j = true := by
  intro b j q
  unfold kmRG at q
  split at q
  · simp only [Bool.or_eq_true, beq_iff_eq] at q
    rcases q with (rfl | rfl) | rfl <;> rfl
  · rfl
  · rfl
  · rfl
  · rfl
  · rfl
  · rfl
  · rfl
  · rfl
  · cases q
theorem leP_kcRS : ∀ b j, kcRS b j = true → kcUP b j = true := by
  intro b j q
  unfold kcRS at q
  split at q
  · rfl
  · rfl
  · rfl
  · cases q
theorem leP_kmRS : ∀ b j, kmRS b j = true → kmUP b j = true := by
  intro b j q
  unfold kmRS at q
  split at q
  · rfl
  · rfl
  · rfl
  · cases q
theorem leP_kcRE : ∀ b j, kcRE b j = true → kcUP b j = true := by
  intro b j q
  unfold kcRE at q
  split at q
  · rfl
  · rfl
  · rfl
  · rfl
  · rfl
  · rfl
  · rfl
  · cases q
theorem leP_kmRE : ∀ b j, kmRE b j = true → kmUP b j = true := by
  intro b j q
  unfold kmRE at q
  split at q
  · rfl
  · rfl
  · rfl
  · rfl
  · rfl
  · rfl
  · cases q
theorem leP_kcRA : ∀ b j, kcRA b j = true → kcUP b j = true := by
  intro b j q
  unfold kcRA at q
  split at q
  · simp only [Bool.or_eq_true, beq_iff_eq] at q
    subst q
    rfl
  · rfl
  · cases q
theorem leP_kmRA : ∀ b j, kmRA b j = true → kmUP b j = true := by
  intro b j q
  unfold kmRA at q
  split at q
  · simp only [Bool.or_eq_true, beq_iff_eq] at q
    subst q
    rfl
  · rfl
  · rfl
  · cases q
theorem leP_kmIL : ∀ b j, kmIL b j = true → kmUP b j = true := by
  intro b j q
  unfold kmIL at q
  split at q
  · simp only [Bool.or_eq_true, beq_iff_eq] at q
    subst q
    rfl
  · rfl
  · rfl
  · rfl
  · rfl
  · rfl
  · cases q
theorem leP_kmIB : ∀ b j, kmIB b j = true → kmUP b j = true := by
  intro b j q
  unfold kmIB at q
  split at q
  · simp only [Bool.or_eq_true, beq_iff_eq] at q
    rcases q with (((((rfl | rfl) | rfl) | rfl) | rfl) | rfl) | rfl <;> rfl
  · rfl
  · rfl
  · rfl
  · cases q
theorem leP_kmIS : ∀ b j, kmIS b j = true → kmUP b j = true := by
  intro b j q
  unfold kmIS at q
  split at q
  · simp only [Bool.or_eq_true, beq_iff_eq] at q
    subst q
    rfl
  · rfl
  · rfl
  · rfl
  · cases q
theorem leP_kmIE : ∀ b j, kmIE b j = true → kmUP b j = true := by
  intro b j q
  unfold kmIE at q
  split at q
  · simp only [Bool.or_eq_true, beq_iff_eq] at q
    subst q
    rfl
  · rfl
  · rfl
  · rfl
  · rfl
  · rfl
  · cases q
theorem RR_upP {hc hc' hm hm' : HS} (ec : ∀ b j, kcUP b j = true → gI hc' b j = gI hc b j) (em : ∀ b j, kmUP b j = true → gI hm' b j = gI hm b j) (nRP : RP hc' hm') (nIP : IP hm') (H : RR hc hm) : RR hc' hm' := by
  obtain ⟨⟨h1, h2, h3, h4, h5, h6, h7, h8, h9, h10⟩, ⟨i1, i2, i3, i4, i5⟩, p⟩ := H
  exact ⟨⟨RLo_cg (cg_le leP_kcRLo ec) (cg_le leP_kmRLo em) h1, RB_cg (cg_le leP_kcRB ec) (cg_le leP_kmRB em) h2, RT_cg (cg_le leP_kcRT ec) (cg_le leP_kmRT em) h3, RW_cg (cg_le leP_kcRW ec) (cg_le leP_kmRW em) h4, RK_cg (cg_le leP_kcRK ec) (cg_le leP_kmRK em) h5, nRP, RG_cg (cg_le leP_kcRG ec) (cg_le leP_kmRG em) h7, RS_cg (cg_le leP_kcRS ec) (cg_le leP_kmRS em) h8, RE_cg (cg_le leP_kcRE ec) (cg_le leP_kmRE em) h9, RA_cg (cg_le leP_kcRA ec) (cg_le leP_kmRA em) h10⟩, ⟨IL_cg (cg_le leP_kmIL em) i1, IB_cg (cg_le leP_kmIB em) i2, nIP, IS_cg (cg_le leP_kmIS em) i4, IE_cg (cg_le leP_kmIE em) i5⟩, (em 0 24 rfl).trans p⟩
def kcUG (b j : Nat) : Bool := match b with
  | 0 => j == 5
  | 1 => j == 2 || j == 3 || j == 4 || j == 6 || j == 7 || j == 8
  | 2 => j == 7 || j == 8
  | 3 => j == 2 || j == 3 || j == 4
  | 4 => j == 1
  | 5 => j == 4 || j == 5
  | 6 => j == 3
  | 16 => true
  | 17 => true
  | 19 => true
  | 20 => true
  | 21 => true
  | 22 => true
  | 23 => true
  | 24 => true
  | 25 => true
  | 26 => true
  | 27 => true
  | 28 => true
  | 29 => true
  | 30 => true
  | 32 => true
  | 33 => true
  | 34 => true
  | 35 => true
  | 36 => true
  | 37 => true
  | 38 => true
  | 40 => true
  | 41 => true
  | 42 => true
  | 43 => true
  | 63 => true
  | 64 => true
  | 65 => true
  | _ => false
def kmUG (b j : Nat) : Bool := match b with
  | 0 => j == 0 || j == 6 || j == 7 || j == 8 || j == 9 || j == 10 || j == 11 || j == 15 || j == 16 || j == 17 || j == 19 || j == 21 || j == 24 || j == 31 || j == 32 || j == 39
  | 1 => true
  | 2 => true
  | 3 => true
  | 4 => true
  | 5 => true
  | 6 => true
  | 7 => true
  | 8 => true
  | 9 => true
  | 10 => true
  | 12 => true
  | 13 => true
  | 14 => true
  | 17 => true
  | 18 => true
  | 19 => true
  | 20 => true
  | 30 => true
  | 31 => true
  | 32 => true
  | 33 => true
  | 34 => true
  | 35 => true
  | 36 => true
  | 37 => true
  | 38 => true
  | _ => false
theorem leG_kcRLo : ∀ b j, kcRLo b j = true → kcUG b j = true := by
  intro b j q
  unfold kcRLo at q
  split at q
  · simp only [Bool.or_eq_true, beq_iff_eq] at q
    subst q
    rfl
  · rfl
  · rfl
  · rfl
  · rfl
  · rfl
  · cases q
theorem leG_kmRLo : ∀ b j, kmRLo b j = true → kmUG b j = true := by
  intro b j q
  unfold kmRLo at q
  split at q
  · simp only [Bool.or_eq_true, beq_iff_eq] at q
    subst q
    rfl
  · rfl
  · rfl
  · rfl
  · rfl
  · rfl
  · cases q
theorem leG_kcRB : ∀ b j, kcRB b j = true → kcUG b j = true := by
  intro b j q
  unfold kcRB at q
  split at q
  · simp only [Bool.or_eq_true, beq_iff_eq] at q
    rcases q with ((((rfl | rfl) | rfl) | rfl) | rfl) | rfl <;> rfl
  · simp only [Bool.or_eq_true, beq_iff_eq] at q
    rcases q with (rfl | rfl) | rfl <;> rfl
  · rfl
  · rfl
  · rfl
  · cases q
theorem leG_kmRB : ∀ b j, kmRB b j = true → kmUG b j = true := by
  intro b j q
  unfold kmRB at q
  split at q
  · simp only [Bool.or_eq_true, beq_iff_eq] at q
    rcases q with (((((((rfl | rfl) | rfl) | rfl) | rfl) | rfl) | rfl) | rfl) | rfl <;> rfl
  · rfl
  · rfl
  · rfl
  · cases q
theorem leG_kcRT : ∀ b j, kcRT b j = true → kcUG b j = true := by
  intro b j q
  unfold kcRT at q
  split at q
  · simp only [Bool.or_eq_true, beq_iff_eq] at q
    subst q
    rfl
  · rfl
  · cases q
theorem leG_kmRT : ∀ b j, kmRT b j = true → kmUG b j = true := by
  intro b j q
  unfold kmRT at q
  split at q
  · simp only [Bool.or_eq_true, beq_iff_eq] at q
    subst q
    rfl
  · rfl
  · cases q
theorem leG_kcRW : ∀ b j, kcRW b j = true → kcUG b j = true := by
  intro b j q
  unfold kcRW at q
  split at q
  · simp only [Bool.or_eq_true, beq_iff_eq] at q
    subst q
    rfl
  · rfl
  · cases q
theorem leG_kmRW : ∀ b j, kmRW b j = true → kmUG b j = true := by
  intro b j q
  unfold kmRW at q
  split at q
  · simp only [Bool.or_eq_true, beq_iff_eq] at q
    subst q
    rfl
  · rfl
  · cases q
theorem leG_kcRK : ∀ b j, kcRK b j = true → kcUG b j = true := by
  intro b j q
  unfold kcRK at q
  split at q
  · simp only [Bool.or_eq_true, beq_iff_eq] at q
    rcases q with rfl | rfl <;> rfl
  · rfl
  · rfl
  · rfl
  · cases q
theorem leG_kmRK : ∀ b j, kmRK b j = true → kmUG b j = true := by
  intro b j q
  unfold kmRK at q
  split at q
  · simp only [Bool.or_eq_true, beq_iff_eq] at q
    rcases q with rfl | rfl <;> rfl
  · rfl
  · rfl
  · rfl
  · cases q
theorem leG_kcRP : ∀ b j, kcRP b j = true → kcUG b j = true := by
  intro b j q
  unfold kcRP at q
  split at q
  · simp only [Bool.or_eq_true, beq_iff_eq] at q
    subst q
    rfl
  · rfl
  · rfl
  · rfl
  · rfl
  · cases q
theorem leG_kmRP : ∀ b j, kmRP b j = true → kmUG b j = true := by
  intro b j q
  unfold kmRP at q
  split at q
  · simp only [Bool.or_eq_true, beq_iff_eq] at q
    subst q
    rfl
  · rfl
  · rfl
  · rfl
  · rfl
  · cases q
theorem leG_kcRS : ∀ b j, kcRS b j = true → kcUG b j = true := by
  intro b j q
  unfold kcRS at q
  split at q
  · rfl
  · rfl
  · rfl
  · cases q
theorem leG_kmRS : ∀ b j, kmRS b j = true → kmUG b j = true := by
  intro b j q
  unfold kmRS at q
  split at q
  · rfl
  · rfl
  · rfl
  · cases q
theorem leG_kcRE : ∀ b j, kcRE b j = true → kcUG b j = true := by
  intro b j q
  unfold kcRE at q
  split at q
  · rfl
  · rfl
  · rfl
  · rfl
  · rfl
  · rfl
  · rfl
  · cases q
theorem leG_kmRE : ∀ b j, kmRE b j = true → kmUG b j = true := by
  intro b j q
  unfold kmRE at q
  split at q
  · rfl
  · rfl
  · rfl
  · rfl
  · rfl
  · rfl
  · cases q
theorem leG_kcRA : ∀ b j, kcRA b j = true → kcUG b j = true := by
  intro b j q
  unfold kcRA at q
  split at q
  · simp only [Bool.or_eq_true, beq_iff_eq] at q
    subst q
    rfl
  · rfl
  · cases q
theorem leG_kmRA : ∀ b j, kmRA b j = true → kmUG b j = true := by
  intro b j q
  unfold kmRA at q
  split at q
  · simp only [Bool.or_eq_true, beq_iff_eq] at q
    subst q
    rfl
  · rfl
  · rfl
  · cases q
theorem leG_kmIL : ∀ b j, kmIL b j = true → kmUG b j = true := by
  intro b j q
  unfold kmIL at q
  split at q
  · simp only [Bool.or_eq_true, beq_iff_eq] at q
    subst q
    rfl
  · rfl
  · rfl
  · rfl
  · rfl
  · rfl
  · cases q
theorem leG_kmIB : ∀ b j, kmIB b j = true → kmUG b j = true := by
  intro b j q
  unfold kmIB at q
  split at q
  · simp only [Bool.or_eq_true, beq_iff_eq] at q
    rcases q with (((((rfl | rfl) | rfl) | rfl) | rfl) | rfl) | rfl <;> rfl
  · rfl
  · rfl
  · rfl
  · cases q
theorem leG_kmIP : ∀ b j, kmIP b j = true → kmUG b j = true := by
  intro b j q
  unfold kmIP at q
  split at q
  · simp only [Bool.or_eq_true, beq_iff_eq] at q
    rcases q with rfl | rfl <;> rfl
  · rfl
  · rfl
  · rfl
  · rfl
  · rfl
  · cases q
theorem leG_kmIS : ∀ b j, kmIS b j = true → kmUG b j = true := by
  intro b j q
  unfold kmIS at q
  split at q
  · simp only [Bool.or_eq_true, beq_iff_eq] at q
    subst q
    rfl
  · rfl
  · rfl
  · rfl
  · cases q
theorem leG_kmIE : ∀ b j, kmIE b j = true → kmUG b j = true := by
  intro b j q
  unfold kmIE at q
  split at q
  · simp only [Bool.or_eq_true, beq_iff_eq] at q
    subst q
    rfl
  · rfl
  · rfl
  · rfl
  · rfl
  · rfl
  · cases q
theorem RR_upG {hc hc' hm hm' : HS} (ec : ∀ b j, kcUG b j = true → gI hc' b j = gI hc b j) (em : ∀ b j, kmUG b j = true → gI hm' b j = gI hm b j) (nRG : RG hc' hm') (H : RR hc hm) : RR hc' hm' := by
  obtain ⟨⟨h1, h2, h3, h4, h5, h6, h7, h8, h9, h10⟩, ⟨i1, i2, i3, i4, i5⟩, p⟩ := H
  exact ⟨⟨RLo_cg (cg_le leG_kcRLo ec) (cg_le leG_kmRLo em) h1, RB_cg (cg_le leG_kcRB ec) (cg_le leG_kmRB em) h2, RT_cg (cg_le leG_kcRT ec) (cg_le leG_kmRT em) h3, RW_cg (cg_le leG_kcRW ec) (cg_le leG_kmRW em) h4, RK_cg (cg_le leG_kcRK ec) (cg_le leG_kmRK em) h5, RP_cg (cg_le leG_kcRP ec) (cg_le leG_kmRP em) h6, nRG, RS_cg (cg_le leG_kcRS ec) (cg_le leG_kmRS em) h8, RE_cg (cg_le leG_kcRE ec) (cg_le leG_kmRE em) h9, RA_cg (cg_le leG_kcRA ec) (cg_le leG_kmRA em) h10⟩, ⟨IL_cg (cg_le leG_kmIL em) i1, IB_cg (cg_le leG_kmIB em) i2, IP_cg (cg_le leG_kmIP em) i3, IS_cg (cg_le leG_kmIS em) i4, IE_cg (cg_le leG_kmIE em) i5⟩, (em 0 24 rfl).trans p⟩
def kcUS (b j : Nat) : Bool := match b with
  | 0 => j == 5
  | 1 => j == 2 || j == 3 || j == 4 || j == 6 || j == 7 || j == 8
  | 2 => j == 7 || j == 8
  | 3 => j == 2 || j == 3 || j == 4
  | 4 => j == 1
  | 5 => j == 4 || j == 5
  | 6 => j == 3
  | 8 => j == 3 || j == 6
  | 16 => true
  | 17 => true
  | 19 => true
  | 20 => true
  | 21 => true
  | 22 => true
  | 23 => true
  | 24 => true
  | 25 => true
  | 26 => true
  | 27 => true
  | 28 => true
  | 29 => true
  | 30 => true
  | 32 => true
  | 33 => true
  | 34 => true
  | 35 => true
  | 36 => true
  | 37 => true
  | 38 => true
  | 40 => true
  | 41 => true
  | 42 => true
  | 43 => true
  | 46 => true
  | 47 => true
  | 48 => true
  | 49 => true
  | 50 => true
  | 51 => true
  | 53 => true
  | 54 => true
  | 55 => true
  | 56 => true
  | 57 => true
  | 58 => true
  | 59 => true
  | 60 => true
  | 61 => true
  | 62 => true
  | _ => false
def kmUS (b j : Nat) : Bool := match b with
  | 0 => j == 0 || j == 6 || j == 7 || j == 8 || j == 9 || j == 10 || j == 11 || j == 15 || j == 16 || j == 17 || j == 19 || j == 21 || j == 24 || j == 31 || j == 32 || j == 39 || j == 50 || j == 53
  | 1 => true
  | 2 => true
  | 3 => true
  | 4 => true
  | 5 => true
  | 6 => true
  | 7 => true
  | 8 => true
  | 9 => true
  | 10 => true
  | 12 => true
  | 13 => true
  | 14 => true
  | 17 => true
  | 18 => true
  | 19 => true
  | 20 => true
  | 22 => true
  | 23 => true
  | 24 => true
  | 25 => true
  | 26 => true
  | 27 => true
  | 33 => true
  | 34 => true
  | 35 => true
  | 36 => true
  | 37 => true
  | 38 => true
  | _ => false
theorem leS_kcRLo : ∀ b j, kcRLo b j = true → kcUS b j = true := by
  intro b j q
  unfold kcRLo at q
  split at q
  · simp only [Bool.or_eq_true, beq_iff_eq] at q
    subst q
    rfl
  · rfl
  · rfl
  · rfl
  · rfl
  · rfl
  · cases q
theorem leS_kmRLo : ∀ b j, kmRLo b j = true → kmUS b j = true := by
  intro b j q
  unfold kmRLo at q
  split at q
  · simp only [Bool.or_eq_true, beq_iff_eq] at q
    subst q
    rfl
  · rfl
  · rfl
  · rfl
  · rfl
  · rfl
  · cases q
theorem leS_kcRB : ∀ b j, kcRB b j = true → kcUS b j = true := by
  intro b j q
  unfold kcRB at q
  split at q
  · simp only [Bool.or_eq_true, beq_iff_eq] at q
    rcases q with ((((rfl | rfl) | rfl) | rfl) | rfl) | rfl <;> rfl
  · simp only [Bool.or_eq_true, beq_iff_eq] at q
    rcases q with (rfl | rfl) | rfl <;> rfl
  · rfl
  · rfl
  · rfl
  · cases q
theorem leS_kmRB : ∀ b j, kmRB b j = true → kmUS b j = true := by
  intro b j q
  unfold kmRB at q
  split at q
  · simp only [Bool.or_eq_true, beq_iff_eq] at q
    rcases q with (((((((rfl | rfl) | rfl) | rfl) | rfl) | rfl) | rfl) | rfl) | rfl <;> rfl
  · rfl
  · rfl
  · rfl
  · cases q
theorem leS_kcRT : ∀ b j, kcRT b j = true → kcUS b j = true := by
  intro b j q
  unfold kcRT at q
  split at q
  · simp only [Bool.or_eq_true, beq_iff_eq] at q
    subst q
    rfl
  · rfl
  · cases q
theorem leS_kmRT : ∀ b j, kmRT b j = true → kmUS b j = true := by
  intro b j q
  unfold kmRT at q
  split at q
  · simp only [Bool.or_eq_true, beq_iff_eq] at q
    subst q
    rfl
  · rfl
  · cases q
theorem leS_kcRW : ∀ b j, kcRW b j = true → kcUS b j = true := by
  intro b j q
  unfold kcRW at q
  split at q
  · simp only [Bool.or_eq_true, beq_iff_eq] at q
    subst q
    rfl
  · rfl
  · cases q
theorem leS_kmRW : ∀ b j, kmRW b j = true → kmUS b j = true := by
  intro b j q
  unfold kmRW at q
  split at q
  · simp only [Bool.or_eq_true, beq_iff_eq] at q
    subst q
    rfl
  · rfl
  · cases q
theorem leS_kcRK : ∀ b j, kcRK b j = true → kcUS b j = true := by
  intro b j q
  unfold kcRK at q
  split at q
  · simp only [Bool.or_eq_true, beq_iff_eq] at q
    rcases q with rfl | rfl <;> rfl
  · rfl
  · rfl
  · rfl
  · cases q
theorem leS_kmRK : ∀ b j, kmRK b j = true → kmUS b j = true := by
  intro b j q
  unfold kmRK at q
  split at q
  · simp only [Bool.or_eq_true, beq_iff_eq] at q
    rcases q with rfl | rfl <;> rfl
  · rfl
  · rfl
  · rfl
  · cases q
theorem leS_kcRP : ∀ b j, kcRP b j = true → kcUS b j = true := by
  intro b j q
  unfold kcRP at q
  split at q
  · simp only [Bool.or_eq_true, beq_iff_eq] at q
    subst q
    rfl
  · rfl
  · rfl
  · rfl
  · rfl
  · cases q
theorem leS_kmRP : ∀ b j, kmRP b j = true → kmUS b j = true := by
  intro b j q
  unfold kmRP at q
  split at q
  · simp only [Bool.or_eq_true, beq_iff_eq] at q
    subst q
    rfl
  · rfl
  · rfl
  · rfl
  · rfl
  · cases q
theorem leS_kcRG : ∀ b j, kcRG b j = true → kcUS b j = true := by
  intro b j q
  unfold kcRG at q
  split at q
  · simp only [Bool.or_eq_true, beq_iff_eq] at q
    rcases q with rfl | rfl <;> rfl
  · rfl
  · rfl
  · rfl
  · rfl
  · rfl
  · rfl
  · rfl
  · rfl
  · rfl
  · rfl
  · rfl
  · rfl
  · rfl
  · rfl
  · rfl
  · rfl
  · cases q
theorem leS_kmRG : ∀ b j, kmRG b j = true → kmUS b j = true := by
  intro b j q
  unfold kmRG at q
  split at q
  · simp only [Bool.or_eq_true, beq_iff_eq] at q
    rcases q with (rfl | rfl) | rfl <;> rfl
  · rfl
  · rfl
  · rfl
  · rfl
  · rfl
  · rfl
  · rfl
  · rfl
  · cases q
theorem leS_kcRE : ∀ b j, kcRE b j = true → kcUS b j = true := by
  intro b j q
  unfold kcRE at q
  split at q
  · rfl
  · rfl
  · rfl
  · rfl
  · rfl
  · rfl
  · rfl
  · cases q
theorem leS_kmRE : ∀ b j, kmRE b j = true → kmUS b j = true := by
  intro b j q
  unfold kmRE at q
  split at q
  · rfl
  · rfl
  · rfl
  · rfl
  · rfl
  · rfl
  · cases q
theorem leS_kcRA : ∀ b j, kcRA b j = true → kcUS b j = true := by
  intro b j q
  unfold kcRA at q
  split at q
  · simp only [Bool.or_eq_true, beq_iff_eq] at q
    subst q
    rfl
  · rfl
  · cases q
theorem leS_kmRA : ∀ b j, kmRA b j = true → kmUS b j = true := by
  intro b j q
  unfold kmRA at q
  split at q
  · simp only [Bool.or_eq_true, beq_iff_eq] at q
    subst q
    rfl
  · rfl
  · rfl
  · cases q
theorem leS_kmIL : ∀ b j, kmIL b j = true → kmUS b j = true := by
  intro b j q
  unfold kmIL at q
  split at q
  · simp only [Bool.or_eq_true, beq_iff_eq] at q
    subst q
    rfl
  · rfl
  · rfl
  · rfl
  · rfl
  · rfl
  · cases q
theorem leS_kmIB : ∀ b j, kmIB b j = true → kmUS b j = true := by
  intro b j q
  unfold kmIB at q
  split at q
  · simp only [Bool.or_eq_true, beq_iff_eq] at q
    rcases q with (((((rfl | rfl) | rfl) | rfl) | rfl) | rfl) | rfl <;> rfl
  · rfl
  · rfl
  · rfl
  · cases q
theorem leS_kmIP : ∀ b j, kmIP b j = true → kmUS b j = true := by
  intro b j q
  unfold kmIP at q
  split at q
  · simp only [Bool.or_eq_true, beq_iff_eq] at q
    rcases q with rfl | rfl <;> rfl
  · rfl
  · rfl
  · rfl
  · rfl
  · rfl
  · cases q
theorem leS_kmIE : ∀ b j, kmIE b j = true → kmUS b j = true := by
  intro b j q
  unfold kmIE at q
  split at q
  · simp only [Bool.or_eq_true, beq_iff_eq] at q
    subst q
    rfl
  · rfl
  · rfl
  · rfl
  · rfl
  · rfl
  · cases q
theorem RR_upS {hc hc' hm hm' : HS} (ec : ∀ b j, kcUS b j = true → gI hc' b j = gI hc b j) (em : ∀ b j, kmUS b j = true → gI hm' b j = gI hm b j) (nRS : RS hc' hm') (nIS : IS hm') (H : RR hc hm) : RR hc' hm' := by
  obtain ⟨⟨h1, h2, h3, h4, h5, h6, h7, h8, h9, h10⟩, ⟨i1, i2, i3, i4, i5⟩, p⟩ := H
  exact ⟨⟨RLo_cg (cg_le leS_kcRLo ec) (cg_le leS_kmRLo em) h1, RB_cg (cg_le leS_kcRB ec) (cg_le leS_kmRB em) h2, RT_cg (cg_le leS_kcRT ec) (cg_le leS_kmRT em) h3, RW_cg (cg_le leS_kcRW ec) (cg_le leS_kmRW em) h4, RK_cg (cg_le leS_kcRK ec) (cg_le leS_kmRK em) h5, RP_cg (cg_le leS_kcRP ec) (cg_le leS_kmRP em) h6, RG_cg (cg_le leS_kcRG ec) (cg_le leS_kmRG em) h7, nRS, RE_cg (cg_le leS_kcRE ec) (cg_le leS_kmRE em) h9, RA_cg (cg_le leS_kcRA ec) (cg_le leS_kmRA em) h10⟩, ⟨IL_cg (cg_le leS_kmIL em) i1, IB_cg (cg_le leS_kmIB em) i2, IP_cg (cg_le leS_kmIP em) i3, nIS, IE_cg (cg_le leS_kmIE em) i5⟩, (em 0 24 rfl).trans p⟩
def kcUE (b j : Nat) : Bool := match b with
  | 0 => j == 5
  | 1 => j == 2 || j == 3 || j == 4 || j == 6 || j == 7 || j == 8
  | 2 => j == 7 || j == 8
  | 3 => j == 2 || j == 3 || j == 4
  | 4 => j == 1
  | 5 => j == 4 || j == 5
  | 6 => j == 3
  | 8 => j == 3 || j == 6
  | 16 => true
  | 17 => true
  | 26 => true
  | 27 => true
  | 28 => true
  | 29 => true
  | 30 => true
  | 32 => true
  | 33 => true
  | 34 => true
  | 35 => true
  | 36 => true
  | 37 => true
  | 38 => true
  | 40 => true
  | 41 => true
  | 42 => true
  | 43 => true
  | 46 => true
  | 47 => true
  | 48 => true
  | 49 => true
  | 50 => true
  | 51 => true
  | 53 => true
  | 54 => true
  | 55 => true
  | 56 => true
  | 57 => true
  | 58 => true
  | 59 => true
  | 60 => true
  | 61 => true
  | 62 => true
  | 63 => true
  | 64 => true
  | 65 => true
  | _ => false
def kmUE (b j : Nat) : Bool := match b with
  | 0 => j == 0 || j == 6 || j == 7 || j == 8 || j == 9 || j == 10 || j == 11 || j == 15 || j == 16 || j == 17 || j == 19 || j == 21 || j == 24 || j == 31 || j == 32 || j == 39 || j == 50 || j == 53
  | 1 => true
  | 2 => true
  | 3 => true
  | 4 => true
  | 5 => true
  | 6 => true
  | 7 => true
  | 8 => true
  | 9 => true
  | 10 => true
  | 12 => true
  | 13 => true
  | 14 => true
  | 17 => true
  | 18 => true
  | 19 => true
  | 20 => true
  | 22 => true
  | 23 => true
  | 24 => true
  | 25 => true
  | 26 => true
  | 27 => true
  | 30 => true
  | 31 => true
  | 32 => true
  | _ => false
theorem leE_kcRLo : ∀ b j, kcRLo b j = true → kcUE b j = true := by
  intro b j q
  unfold kcRLo at q
  split at q
  · simp only [Bool.or_eq_true, beq_iff_eq] at q
    subst q
    rfl
  · rfl
  · rfl
  · rfl
  · rfl
  · rfl
  · cases q
theorem leE_kmRLo : ∀ b j, kmRLo b j = true → kmUE b j = true := by
  intro b j q
  unfold kmRLo at q
  split at q
  · simp only [Bool.or_eq_true, beq_iff_eq] at q
    subst q
    rfl
  · rfl
  · rfl
  · rfl
  · rfl
  · rfl
  · cases q
theorem leE_kcRB : ∀ b j, kcRB b j = true → kcUE b j = true := by
  intro b j q
  unfold kcRB at q
  split at q
  · simp only [Bool.or_eq_true, beq_iff_eq] at q
    rcases q with ((((rfl | rfl) | rfl) | rfl) | rfl) | rfl <;> rfl
  · simp only [Bool.or_eq_true, beq_iff_eq] at q
    rcases q with (rfl | rfl) | rfl <;> rfl
  · rfl
  · rfl
  · rfl
  · cases q
theorem leE_kmRB : ∀ b j, kmRB b j = true → kmUE b j = true := by
  intro b j q
  unfold kmRB at q
  split at q
  · simp only [Bool.or_eq_true, beq_iff_eq] at q
    rcases q with (((((((rfl | rfl) | rfl) | rfl) | rfl) | rfl) | rfl) | rfl) | rfl <;> rfl
  · rfl
  · rfl
  · rfl
  · cases q
theorem leE_kcRT : ∀ b j, kcRT b j = true → kcUE b j = true := by
  intro b j q
  unfold kcRT at q
  split at q
  · simp only [Bool.or_eq_true, beq_iff_eq] at q
    subst q
    rfl
  · rfl
  · cases q
theorem leE_kmRT : ∀ b j, kmRT b j = true → kmUE b j = true := by
  intro b j q
  unfold kmRT at q
  split at q
  · simp only [Bool.or_eq_true, beq_iff_eq] at q
    subst q
    rfl
  · rfl
  · cases q
theorem leE_kcRW : ∀ b j, kcRW b j = true → kcUE b j = true := by
  intro b j q
  unfold kcRW at q
  split at q
  · simp only [Bool.or_eq_true, beq_iff_eq] at q
    subst q
    rfl
  · rfl
  · cases q
theorem leE_kmRW : ∀ b j, kmRW b j = true → kmUE b j = true := by
  intro b j q
  unfold kmRW at q
  split at q
  · simp only [Bool.or_eq_true, beq_iff_eq] at q
    subst q
    rfl
  · rfl
  · cases q
theorem leE_kcRK : ∀ b j, kcRK b j = true → kcUE b j = true := by
  intro b j q
  unfold kcRK at q
  split at q
  · simp only [Bool.or_eq_true, beq_iff_eq] at q
    rcases q with rfl | rfl <;> rfl
  · rfl
  · rfl
  · rfl
  · cases q
theorem leE_kmRK : ∀ b j, kmRK b j = true → kmUE b j = true := by
  intro b j q
  unfold kmRK at q
  split at q
  · simp only [Bool.or_eq_true, beq_iff_eq] at q
    rcases q with rfl | rfl <;> rfl
  · rfl
  · rfl
  · rfl
  · cases q
theorem leE_kcRP : ∀ b j, kcRP b j = true → kcUE b j = true := by
  intro b j q
  unfold kcRP at q
  split at q
  · simp only [Bool.or_eq_true, beq_iff_eq] at q
    subst q
    rfl
  · rfl
  · rfl
  · rfl
  · rfl
  · cases q
theorem leE_kmRP : ∀ b j, kmRP b j = true → kmUE b j = true := by
  intro b j q
  unfold kmRP at q
  split at q
  · simp only [Bool.or_eq_true, beq_iff_eq] at q
    subst q
    rfl
  · rfl
  · rfl
  · rfl
  · rfl
  · cases q
theorem leE_kcRG : ∀ b j, kcRG b j = true → kcUE b j = true := by
  intro b j q
  unfold kcRG at q
  split at q
  · simp only [Bool.or_eq_true, beq_iff_eq] at q
    rcases q with rfl | rfl <;> rfl
  · rfl
  · rfl
  · rfl
  · rfl
  · rfl
  · rfl
  · rfl
  · rfl
  · rfl
  · rfl
  · rfl
  · rfl
  · rfl
  · rfl
  · rfl
  · rfl
  · cases q
theorem leE_kmRG : ∀ b j, kmRG b j = true → kmUE b j = true := by
  intro b j q
  unfold kmRG at q
  split at q
  · simp only [Bool.or_eq_true, beq_iff_eq] at q
    rcases q with (rfl | rfl) | rfl <;> rfl
  · rfl
  · rfl
  · rfl
  · rfl
  · rfl
  · rfl
  · rfl
  · rfl
  · cases q
theorem leE_kcRS : ∀ b j, kcRS b j = true → kcUE b j = true := by
  intro b j q
  unfold kcRS at q
  split at q
  · rfl
  · rfl
  · rfl
  · cases q
theorem leE_kmRS : ∀ b j, kmRS b j = true → kmUE b j = true := by
  intro b j q
  unfold kmRS at q
  split at q
  · rfl
  · rfl
  · rfl
  · cases q
theorem leE_kcRA : ∀ b j, kcRA b j = true → kcUE b j = true := by
  intro b j q
  unfold kcRA at q
  split at q
  · simp only [Bool.or_eq_true, beq_iff_eq] at q
    subst q
    rfl
  · rfl
  · cases q
theorem leE_kmRA : ∀ b j, kmRA b j = true → kmUE b j = true := by
  intro b j q
  unfold kmRA at q
  split at q
  · simp only [Bool.or_eq_true, beq_iff_eq] at q
    subst q
    rfl
  · rfl
  · rfl
  · cases q
theorem leE_kmIL : ∀ b j, kmIL b j = true → kmUE b j = true := by
  intro b j q
  unfold kmIL at q
  split at q
  · simp only [Bool.or_eq_true, beq_iff_eq] at q
    subst q
    rfl
  · rfl
  · rfl
  · rfl
  · rfl
  · rfl
  · cases q
theorem leE_kmIB : ∀ b j, kmIB b j = true → kmUE b j = true := by
  intro b j q
  unfold kmIB at q
  split at q
  · simp only [Bool.or_eq_true, beq_iff_eq] at q
    rcases q with (((((rfl | rfl) | rfl) | rfl) | rfl) | rfl) | rfl <;> rfl
  · rfl
  · rfl
  · rfl
  · cases q
theorem leE_kmIP : ∀ b j, kmIP b j = true → kmUE b j = true := by
  intro b j q
  unfold kmIP at q
  split at q
  · simp only [Bool.or_eq_true, beq_iff_eq] at q
    rcases q with rfl | rfl <;> rfl
  · rfl
  · rfl
  · rfl
  · rfl
  · rfl
  · cases q
theorem leE_kmIS : ∀ b j, kmIS b j = true → kmUE b j = true := by
  intro b j q
  unfold kmIS at q
  split at q
  · simp only [Bool.or_eq_true, beq_iff_eq] at q
    subst q
    rfl
  · rfl
  · rfl
  · rfl
  · cases q
theorem RR_upE {hc hc' hm hm' : HS} (ec : ∀ b j, kcUE b j = true → gI hc' b j = gI hc b j) (em : ∀ b j, kmUE b j = true → gI hm' b j = gI hm b j) (nRE : RE hc' hm') (nIE : IE hm') (H : RR hc hm) : RR hc' hm' := by
  obtain ⟨⟨h1, h2, h3, h4, h5, h6, h7, h8, h9, h10⟩, ⟨i1, i2, i3, i4, i5⟩, p⟩ := H
  exact ⟨⟨RLo_cg (cg_le leE_kcRLo ec) (cg_le leE_kmRLo em) h1, RB_cg (cg_le leE_kcRB ec) (cg_le leE_kmRB em) h2, RT_cg (cg_le leE_kcRT ec) (cg_le leE_kmRT em) h3, RW_cg (cg_le leE_kcRW ec) (cg_le leE_kmRW em) h4, RK_cg (cg_le leE_kcRK ec) (cg_le leE_kmRK em) h5, RP_cg (cg_le leE_kcRP ec) (cg_le leE_kmRP em) h6, RG_cg (cg_le leE_kcRG ec) (cg_le leE_kmRG em) h7, RS_cg (cg_le leE_kcRS ec) (cg_le leE_kmRS em) h8, nRE, RA_cg (cg_le leE_kcRA ec) (cg_le leE_kmRA em) h10⟩, ⟨IL_cg (cg_le leE_kmIL em) i1, IB_cg (cg_le leE_kmIB em) i2, IP_cg (cg_le leE_kmIP em) i3, IS_cg (cg_le leE_kmIS em) i4, nIE⟩, (em 0 24 rfl).trans p⟩
def kcUH (b j : Nat) : Bool := match b with
  | 0 => j == 5
  | 1 => j == 2 || j == 3 || j == 4 || j == 6 || j == 7 || j == 8
  | 2 => j == 7
  | 3 => j == 2 || j == 3 || j == 4
  | 4 => j == 1
  | 5 => j == 4 || j == 5
  | 6 => j == 3
  | 8 => j == 3 || j == 6
  | 16 => true
  | 17 => true
  | 19 => true
  | 20 => true
  | 21 => true
  | 22 => true
  | 23 => true
  | 24 => true
  | 25 => true
  | 32 => true
  | 33 => true
  | 34 => true
  | 35 => true
  | 36 => true
  | 37 => true
  | 38 => true
  | 40 => true
  | 41 => true
  | 42 => true
  | 43 => true
  | 46 => true
  | 47 => true
  | 48 => true
  | 49 => true
  | 50 => true
  | 51 => true
  | 53 => true
  | 54 => true
  | 55 => true
  | 56 => true
  | 57 => true
  | 58 => true
  | 59 => true
  | 60 => true
  | 61 => true
  | 62 => true
  | 63 => true
  | 64 => true
  | 65 => true
  | _ => false
def kmUH (b j : Nat) : Bool := match b with
  | 0 => j == 0 || j == 6 || j == 7 || j == 8 || j == 9 || j == 10 || j == 11 || j == 15 || j == 16 || j == 17 || j == 19 || j == 21 || j == 24 || j == 31 || j == 32 || j == 39 || j == 50 || j == 53
  | 1 => true
  | 2 => true
  | 3 => true
  | 4 => true
  | 6 => true
  | 7 => true
  | 8 => true
  | 9 => true
  | 10 => true
  | 12 => true
  | 13 => true
  | 14 => true
  | 17 => true
  | 18 => true
  | 19 => true
  | 20 => true
  | 22 => true
  | 23 => true
  | 24 => true
  | 25 => true
  | 26 => true
  | 27 => true
  | 30 => true
  | 31 => true
  | 32 => true
  | 33 => true
  | 34 => true
  | 35 => true
  | 36 => true
  | 37 => true
  | 38 => true
  | _ => false
theorem leH_kcRB : ∀ b j, kcRB b j = true → kcUH b j = true := by
  intro b j q
  unfold kcRB at q
  split at q
  · simp only [Bool.or_eq_true, beq_iff_eq] at q
    rcases q with ((((rfl | rfl) | rfl) | rfl) | rfl) | rfl <;> rfl
  · simp only [Bool.or_eq_true, beq_iff_eq] at q
    rcases q with (rfl | rfl) | rfl <;> rfl
  · rfl
  · rfl
  · rfl
  · cases q
theorem leH_kmRB : ∀ b j, kmRB b j = true → kmUH b j = true := by
  intro b j q
  unfold kmRB at q
  split at q
  · simp only [Bool.or_eq_true, beq_iff_eq] at q
    rcases q with (((((((rfl | rfl) | rfl) | rfl) | rfl) | rfl) | rfl) | rfl) | rfl <;> rfl
  · rfl
  · rfl
  · rfl
  · cases q
theorem leH_kcRT : ∀ b j, kcRT b j = true → kcUH b j = true := by
  intro b j q
  unfold kcRT at q
  split at q
  · simp only [Bool.or_eq_true, beq_iff_eq] at q
    subst q
    rfl
  · rfl
  · cases q
theorem leH_kmRT : ∀ b j, kmRT b j = true → kmUH b j = true := by
  intro b j q
  unfold kmRT at q
  split at q
  · simp only [Bool.or_eq_true, beq_iff_eq] at q
    subst q
    rfl
  · rfl
  · cases q
theorem leH_kcRW : ∀ b j, kcRW b j = true → kcUH b j = true := by
  intro b j q
  unfold kcRW at q
  split at q
  · simp only [Bool.or_eq_true, beq_iff_eq] at q
    subst q
    rfl
  · rfl
  · cases q
theorem leH_kmRW : ∀ b j, kmRW b j = true → kmUH b j = true := by
  intro b j q
  unfold kmRW at q
  split at q
  · simp only [Bool.or_eq_true, beq_iff_eq] at q
    subst q
    rfl
  · rfl
  · cases q
theorem leH_kcRK : ∀ b j, kcRK b j = true → kcUH b j = true := by
  intro b j q
  unfold kcRK at q
  split at q
  · simp only [Bool.or_eq_true, beq_iff_eq] at q
    rcases q with rfl | rfl <;> rfl
  · rfl
  · rfl
  · rfl
  · cases q
theorem leH_kmRK : ∀ b j, kmRK b j = true → kmUH b j = true := by
  intro b j q
  unfold kmRK at q
  split at q
  · simp only [Bool.or_eq_true, beq_iff_eq] at q
    rcases q with rfl | rfl <;> rfl
  · rfl
  · rfl
  · rfl
  · cases q
theorem leH_kcRP : ∀ b j, kcRP b j = true → kcUH b j = true := by
  intro b j q
  unfold kcRP at q
  split at q
  · simp only [Bool.or_eq_true, beq_iff_eq] at q
    subst q
    rfl
  · rfl
  · rfl
  · rfl
  · rfl
  · cases q
theorem leH_kmRP : ∀ b j, kmRP b j = true → kmUH b j = true := by
  intro b j q
  unfold kmRP at q
  split at q
  · simp only [Bool.or_eq_true, beq_iff_eq] at q
    subst q
    rfl
  · rfl
  · rfl
  · rfl
  · rfl
  · cases q
theorem leH_kcRG : ∀ b j, kcRG b j = true → kcUH b j = true := by
  intro b j q
  unfold kcRG at q
  split at q
  · simp only [Bool.or_eq_true, beq_iff_eq] at q
    rcases q with rfl | rfl <;> rfl
  · rfl
  · rfl
  · rfl
  · rfl
  · rfl
  · rfl
  · rfl
  · rfl
  · rfl
  · rfl
  · rfl
  · rfl
  · rfl
  · rfl
  · rfl
  · rfl
  · cases q
theorem leH_kmRG : ∀ b j, kmRG b j = true → kmUH b j = true := by
  intro b j q
  unfold kmRG at q
  split at q
  · simp only [Bool.or_eq_true, beq_iff_eq] at q
    rcases q with (rfl | rfl) | rfl <;> rfl
  · rfl
  · rfl
  · rfl
  · rfl
  · rfl
  · rfl
  · rfl
  · rfl
  · cases q
theorem leH_kcRS : ∀ b j, kcRS b j = true → kcUH b j = true := by
  intro b j q
  unfold kcRS at q
  split at q
  · rfl
  · rfl
  · rfl
  · cases q
theorem leH_kmRS : ∀ b j, kmRS b j = true → kmUH b j = true := by
  intro b j q
  unfold kmRS at q
  split at q
  · rfl
  · rfl
  · rfl
  · cases q
theorem leH_kcRE : ∀ b j, kcRE b j = true → kcUH b j = true := by
  intro b j q
  unfold kcRE at q
  split at q
  · rfl
  · rfl
  · rfl
  · rfl
  · rfl
  · rfl
  · rfl
  · cases q
theorem leH_kmRE : ∀ b j, kmRE b j = true → kmUH b j = true := by
  intro b j q
  unfold kmRE at q
  split at q
  · rfl
  · rfl
  · rfl
  · rfl
  · rfl
  · rfl
  · cases q
theorem leH_kcRA : ∀ b j, kcRA b j = true → kcUH b j = true := by
  intro b j q
  unfold kcRA at q
  split at q
  · simp only [Bool.or_eq_true, beq_iff_eq] at q
    subst q
    rfl
  · rfl
  · cases q
theorem leH_kmRA : ∀ b j, kmRA b j = true → kmUH b j = true := by
  intro b j q
  unfold kmRA at q
  split at q
  · simp only [Bool.or_eq_true, beq_iff_eq] at q
    subst q
    rfl
  · rfl
  · rfl
  · cases q
theorem leH_kmIB : ∀ b j, kmIB b j = true → kmUH b j = true := by
  intro b j q
  unfold kmIB at q
  split at q
  · simp only [Bool.or_eq_true, beq_iff_eq] at q
    rcases q with (((((rfl | rfl) | rfl) | rfl) | rfl) | rfl) | rfl <;> rfl
  · rfl
  · rfl
  · rfl
  · cases q
theorem leH_kmIP : ∀ b j, kmIP b j = true → kmUH b j = true := by
  intro b j q
  unfold kmIP at q
  split at q
  · simp only [Bool.or_eq_true, beq_iff_eq] at q
    rcases q with rfl | rfl <;> rfl
  · rfl
  · rfl
  · rfl
  · rfl
  · rfl
  · cases q
theorem leH_kmIS : ∀ b j, kmIS b j = true → kmUH b j = true := by
  intro b j q
  unfold kmIS at q
  split at q
  · simp only [Bool.or_eq_true, beq_iff_eq] at q
    subst q
    rfl
  · rfl
  · rfl
  · rfl
  · cases q
theorem leH_kmIE : ∀ b j, kmIE b j = true → kmUH b j = true := by
  intro b j q
  unfold kmIE at q
  split at q
  · simp only [Bool.or_eq_true, beq_iff_eq] at q
    subst q
    rfl
  · rfl
  · rfl
  · rfl
  · rfl
  · rfl
  · cases q
theorem RR_upH {hc hc' hm hm' : HS} (ec : ∀ b j, kcUH b j = true → gI hc' b j = gI hc b j) (em : ∀ b j, kmUH b j = true → gI hm' b j = gI hm b j) (nRLo : RLo hc' hm') (nIL : IL hm') (H : RR hc hm) : RR hc' hm' := by
  obtain ⟨⟨h1, h2, h3, h4, h5, h6, h7, h8, h9, h10⟩, ⟨i1, i2, i3, i4, i5⟩, p⟩ := H
  exact ⟨⟨nRLo, RB_cg (cg_le leH_kcRB ec) (cg_le leH_kmRB em) h2, RT_cg (cg_le leH_kcRT ec) (cg_le leH_kmRT em) h3, RW_cg (cg_le leH_kcRW ec) (cg_le leH_kmRW em) h4, RK_cg (cg_le leH_kcRK ec) (cg_le leH_kmRK em) h5, RP_cg (cg_le leH_kcRP ec) (cg_le leH_kmRP em) h6, RG_cg (cg_le leH_kcRG ec) (cg_le leH_kmRG em) h7, RS_cg (cg_le leH_kcRS ec) (cg_le leH_kmRS em) h8, RE_cg (cg_le leH_kcRE ec) (cg_le leH_kmRE em) h9, RA_cg (cg_le leH_kcRA ec) (cg_le leH_kmRA em) h10⟩, ⟨nIL, IB_cg (cg_le leH_kmIB em) i2, IP_cg (cg_le leH_kmIP em) i3, IS_cg (cg_le leH_kmIS em) i4, IE_cg (cg_le leH_kmIE em) i5⟩, (em 0 24 rfl).trans p⟩
