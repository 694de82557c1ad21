section TRJ
variable {hc hm : HS}
theorem exP_IB {h h' : HS} (s : exP h h') (J : IB h) : IB h' := IB_cg (fun b j q => s b j (by rintro rfl; cases q) (by rintro ⟨rfl, rfl⟩; cases q)) J
theorem exP_VV {h h' : HS} (s : exP h h') (q : Nat) (d : Int32) (k : Int) : VVi h' q d k ↔ VVi h q d k := by
  obtain ⟨a1, -, -, a4, a5, a6, -, -⟩ := exP_M s
  unfold VVi
  rw [a1, a4, a5, a6, s 17 q (by decide) (by omega), s 18 q (by decide) (by omega), s 19 q (by decide) (by omega), s 8 0 (by decide) (by decide), s 8 1 (by decide) (by decide), s 8 2 (by decide) (by decide), show gI h' 5 = gI h 5 from funext fun j => s _ _ (by decide) (by omega), show gI h' 4 = gI h 4 from funext fun j => s _ _ (by decide) (by omega), show gI h' 2 = gI h 2 from funext fun j => s _ _ (by decide) (by omega), show gI h' 3 = gI h 3 from funext fun j => s _ _ (by decide) (by omega)]
def exQ (h h' : HS) : Prop := exP h h' ∧ gI h' 0 24 = nI 1 ∧ ∀ j, j < 15 → gI h' 11 j = gI h 11 j
/-- a pump that stands -/
def pmp (h : HS) (q : Nat) : Prop := q < 6 ∧ endP h (gI h 17 q) ∧ endP h (gI h 18 q) ∧ ¬ gI h 17 q = gI h 18 q ∧ (1 ≤ (gI h 19 q).toInt ∧ (gI h 19 q).toInt ≤ 50)
theorem exP_pmp {h h' : HS} (s : exP h h') {q : Nat} (P : pmp h q) : pmp h' q := by
  obtain ⟨a1, a2, a3, a4, a5⟩ := P
  unfold pmp
  rw [s 17 q (by decide) (by omega), s 18 q (by decide) (by omega), s 19 q (by decide) (by omega)]
  exact ⟨a1, (exP_end s _).mpr a2, (exP_end s _).mpr a3, a4, a5⟩
/-- the model tries one run of the second pump -/
theorem tryM {h : HS} (I : IL h) (J : IB h) {q : Nat} (P : pmp h q) {z : Nat} (hz : z < 3) (e24 : gI h 0 24 = nI z) {d : Int32} (hd : 0 ≤ d ∧ d ≤ 600) {n : Int32} (hn : -99 ≤ n.toInt ∧ n.toInt ≤ 99) (hn0 : ¬ n = 0) :
    ∃ h1 h3, fX12_push h = some h1 ∧ exP h h3 ∧ gI h3 0 24 = nI z ∧ (∀ j, j < 15 * z → gI h3 11 j = gI h 11 j) ∧ ((¬ canP h q n ∧ fX12_runs (nI q) n h1 = some (-2, h1) ∧ fX12_pop h1 = some h3) ∨ (canP h q n ∧ ∃ r h2, fX12_runs (nI q) n h1 = some (r, h2) ∧ ¬ r < 0 ∧ gI h2 0 24 = nI (z + 1) ∧ IL h2 ∧ VN h2 ∧ VY h2 ∧ (Bm h2 d ↔ VVi h q d n.toInt) ∧ (∀ b j, ¬ b = 5 → ¬ b = 11 → ¬ (b = 0 ∧ j = 24) → gI h2 b j = gI h b j) ∧ (∀ k, gI h2 5 k = mvH (gI h 5) (gI h 17 q) (gI h 18 q) (pMu h q n) k) ∧ fX12_pop h2 = some h3 ∧ (∀ h2', exP h2 h2' → gI h2' 0 24 = nI (z + 1) → (∀ j, j < 15 * (z + 1) → gI h2' 11 j = gI h2 11 j) → ∃ h4, fX12_pop h2' = some h4 ∧ exP h h4 ∧ gI h4 0 24 = nI z ∧ ∀ j, j < 15 * z → gI h4 11 j = gI h 11 j))) := by
  obtain ⟨hq, ha, hb, hne, hr⟩ := P
  have Y : VY h := J.2.2.2.2.2.1
  have h15 := (VN_n I.1).1
  obtain ⟨h1, a1, a2, a3⟩ := pr_run I Y (by omega) e24 hq ha hb hne hr hn hn0
  by_cases c : canP h q n
  · obtain ⟨r, h2, b1, b2, b3, b4, b5, b6⟩ := a3 c
    obtain ⟨h3, c1, c2, c3, c4⟩ := b6 h2 (fun _ _ _ _ => rfl) b3 (fun _ _ => rfl)
    obtain ⟨q1, q2, q3, -, -, q6, q7, q8⟩ := run_M (h := h) (h' := h2) h15 ha hb hne b4 b5
    have m := pMu_rng (hm := h) hr hn
    have ng := neg_rng (x := pMu h q n) (by omega)
    have IL2 : IL h2 := by
      refine ⟨q2 I.1, fun i hi => ?_⟩
      rw [q1] at hi
      obtain ⟨x1, x2, x3, x4, x5, x6⟩ := I.2 i hi
      rw [b4 1 i (by decide) (by decide) (by omega), b4 2 i (by decide) (by decide) (by omega), b4 3 i (by decide) (by decide) (by omega), b4 4 i (by decide) (by decide) (by omega), b5 i]
      refine ⟨x1, x2, x3, ?_⟩
      unfold mvH
      by_cases z1 : (gI h 17 q).toInt = (i : Int)
      · rw [if_pos z1]
        have t := c.1 i hi (i32_eqI z1)
        have e : (gI h 5 i - pMu h q n).toInt = (gI h 5 i).toInt - (pMu h q n).toInt := fb_subI9 (by omega) (by omega)
        omega
      · rw [if_neg z1]
        by_cases z2 : (gI h 18 q).toInt = (i : Int)
        · rw [if_pos z2]
          have t := c.2 i hi (i32_eqI z2)
          have e : (gI h 5 i + pMu h q n).toInt = (gI h 5 i).toInt + (pMu h q n).toInt := fb_addI9 (by omega) (by omega)
          omega
        · rw [if_neg z2]
          exact ⟨x4, x5, x6⟩
    have bal : Bm h2 d ↔ VVi h q d n.toInt := by
      rw [← VV_iff I J ha hb hr hd hn]
      unfold Bm VVm
      rw [q8, q6, q7, b4 8 0 (by decide) (by decide) (by decide), b4 8 1 (by decide) (by decide) (by decide), b4 8 2 (by decide) (by decide) (by decide)]
      exact ⟨fun y => ⟨c, y⟩, fun y => y.2⟩
    exact ⟨h1, h3, a1, c2, c3, c4, Or.inr ⟨c, r, h2, b1, b2, b3, IL2, q2 I.1, q3 Y, bal, b4, b5, c1, b6⟩⟩
  · obtain ⟨b1, h3, c1, c2, c3, c4⟩ := a2 c
    exact ⟨h1, h3, a1, c2, c3, c4, Or.inl ⟨c, b1, c1⟩⟩
theorem iabs_i {n : Int32} (hn : -99 ≤ n.toInt ∧ n.toInt ≤ 99) : (iabs n).toInt = (n.toInt.natAbs : Int) := iabs_toInt (by omega)
theorem inM {h : HS} (I : IL h) (J : IB h) {p q : Nat} (hp : p < 6) (P : pmp h q) (hpq : ¬ q = p) {d : Int32} (hd : 0 ≤ d ∧ d ≤ 600) {v2 m : Int32} (hqu : v2 = 0 ∨ ¬ gI h 20 q = 0) (hm : -99 ≤ m.toInt ∧ m.toInt ≤ 99) (K47 : Int32 → Int32 → Int32 → Int32 → Int32 → Int32 → Int32 → Int32 → HS → Option (Int32 × HS)) (K60 : Int32 → Int32 → Int32 → Int32 → Int32 → Int32 → Int32 → Int32 → Int32 → HS → Option (Int32 × HS)) (K145 : Int32 → Int32 → Int32 → Int32 → Int32 → Int32 → Int32 → Int32 → Int32 → Int32 → HS → Option (Int32 × HS)) :
    ∀ (k : Nat) (κ : Int32) (h' : HS) (v3 v4 v5 v6 v7 : Int32), κ.toInt + k = 100 → -99 ≤ κ.toInt → exQ h h' → (v3.toInt = -2 ∨ (0 ≤ v3.toInt ∧ v3.toInt ≤ 198)) → ∀ n, k < n → ∃ h'' w3 w4 w5 w6 w7, fX12_trim_158 K47 K60 K145 n d v2 v3 v4 v5 v6 v7 (nI p) m (nI q) κ h' = K145 d v2 w3 w4 w5 w6 w7 (nI p) m (nI (q + 1)) h'' ∧ exQ h h'' ∧
      ((w3 = v3 ∧ w4 = v4 ∧ w5 = v5 ∧ w6 = v6 ∧ w7 = v7 ∧ ∀ j, κ.toInt ≤ j → j ≤ 99 → ¬ j = 0 → VVi h q d j → ¬ (v3.toInt < 0 ∨ (m.toInt.natAbs : Int) + j.natAbs < v3.toInt)) ∨
       (∃ k1 : Int32, (κ.toInt ≤ k1.toInt ∧ k1.toInt ≤ 99) ∧ ¬ k1.toInt = 0 ∧ VVi h q d k1.toInt ∧ w3.toInt = (m.toInt.natAbs : Int) + k1.toInt.natAbs ∧ w4 = nI p ∧ w5 = m ∧ w6 = nI q ∧ w7 = k1 ∧ (v3.toInt < 0 ∨ (m.toInt.natAbs : Int) + k1.toInt.natAbs < v3.toInt) ∧ ∀ j, κ.toInt ≤ j → j ≤ 99 → ¬ j = 0 → VVi h q d j → k1.toInt.natAbs ≤ j.natAbs)) := by
  intro k
  have e99 : (99 : Int32).toInt = 99 := by decide +kernel
  have e1 : (1 : Int32).toInt = 1 := by decide +kernel
  have hq := P.1
  induction k with
  | zero =>
    intro κ h' v3 v4 v5 v6 v7 hk _ ex _ n hn
    obtain ⟨n', rfl⟩ := fuel1 hn
    refine ⟨h', v3, v4, v5, v6, v7, ?_, ex, Or.inl ⟨rfl, rfl, rfl, rfl, rfl, fun j h1 h2 => by omega⟩⟩
    rw [fX12_trim_158, if_pos (i32_lt.mpr (by omega)), nm_e1, nI_1]
  | succ k ih =>
    intro κ h' v3 v4 v5 v6 v7 hk hk0 ex hv n hn
    obtain ⟨n', rfl⟩ := fuel1 hn
    have rκ : -99 ≤ κ.toInt ∧ κ.toInt ≤ 99 := by omega
    have eκ : (κ + 1).toInt = κ.toInt + 1 := by rw [fb_addI9 (by omega) (by omega), e1]
    have q20 : gI h' 20 q = gI h 20 q := ex.1 20 q (by decide) (by omega)
    rw [fX12_trim_158, if_neg (fun z => by have := i32_lt.mp z; omega), if_neg (fun z => hpq ((nI_eq (by omega) (by omega)).mp z))]
    have pass : ∀ (h3 : HS), exQ h h3 → (¬ κ.toInt = 0 → VVi h q d κ.toInt → ¬ (v3.toInt < 0 ∨ (m.toInt.natAbs : Int) + κ.toInt.natAbs < v3.toInt)) → ∃ h'' w3 w4 w5 w6 w7, fX12_trim_158 K47 K60 K145 n' d v2 v3 v4 v5 v6 v7 (nI p) m (nI q) (κ + 1) h3 = K145 d v2 w3 w4 w5 w6 w7 (nI p) m (nI (q + 1)) h'' ∧ exQ h h'' ∧
      ((w3 = v3 ∧ w4 = v4 ∧ w5 = v5 ∧ w6 = v6 ∧ w7 = v7 ∧ ∀ j, κ.toInt ≤ j → j ≤ 99 → ¬ j = 0 → VVi h q d j → ¬ (v3.toInt < 0 ∨ (m.toInt.natAbs : Int) + j.natAbs < v3.toInt)) ∨
       (∃ k1 : Int32, (κ.toInt ≤ k1.toInt ∧ k1.toInt ≤ 99) ∧ ¬ k1.toInt = 0 ∧ VVi h q d k1.toInt ∧ w3.toInt = (m.toInt.natAbs : Int) + k1.toInt.natAbs ∧ w4 = nI p ∧ w5 = m ∧ w6 = nI q ∧ w7 = k1 ∧ (v3.toInt < 0 ∨ (m.toInt.natAbs : Int) + k1.toInt.natAbs < v3.toInt) ∧ ∀ j, κ.toInt ≤ j → j ≤ 99 → ¬ j = 0 → VVi h q d j → k1.toInt.natAbs ≤ j.natAbs)) := by
      intro h3 ex3 hno
      obtain ⟨h'', w3, w4, w5, w6, w7, r1, r2, r3⟩ := ih (κ + 1) h3 v3 v4 v5 v6 v7 (by omega) (by omega) ex3 hv n' (by omega)
      refine ⟨h'', w3, w4, w5, w6, w7, r1, r2, ?_⟩
      rw [eκ] at r3
      rcases r3 with ⟨x1, x2, x3, x4, x5, x6⟩ | ⟨k1, x1, x2, x3, x4, x5, x6, x7, x8, x9, x10⟩
      · refine Or.inl ⟨x1, x2, x3, x4, x5, fun j h1 h2 h3 h4 => ?_⟩
        by_cases z : j = κ.toInt
        · subst z; exact hno h3 h4
        · exact x6 j (by omega) h2 h3 h4
      · refine Or.inr ⟨k1, by omega, x2, x3, x4, x5, x6, x7, x8, x9, fun j h1 h2 h3 h4 => ?_⟩
        by_cases z : j = κ.toInt
        · subst z
          have := hno h3 h4
          omega
        · exact x10 j (by omega) h2 h3 h4
    by_cases c0 : κ = 0
    · rw [if_pos c0, nm_e1]
      exact pass h' ex (fun z => absurd (by rw [c0]; rfl) z)
    · rw [if_neg c0]
      have c0' : ¬ κ.toInt = 0 := fun z => c0 (Int32.toInt_inj.mp z)
      -- quiet or not, it goes on to 191
      have q191 : ∀ X Y : Option (Int32 × HS), (if v2 = 0 then X else ck (inb (nI q) 6) (if gI h' 20 (nI q).toNatClampNeg = 0 then Y else X)) = X := by
        intro X Y
        by_cases z : v2 = 0
        · rw [if_pos z]
        · rw [if_neg z, inb_n hq (by omega), ck_t, nI_clamp (by omega), q20, if_neg (hqu.resolve_left z)]
      rw [q191]
      unfold fX12_trim_191
      have t1 := iabs_i hm
      have t2 := iabs_i rκ
      have tS : (iabs m + iabs κ).toInt = (m.toInt.natAbs : Int) + κ.toInt.natAbs := by rw [fb_addI9 (by omega) (by omega), t1, t2]
      -- the try
      have go : (v3.toInt < 0 ∨ (m.toInt.natAbs : Int) + κ.toInt.natAbs < v3.toInt) → ∃ h'' w3 w4 w5 w6 w7, fX12_trim_213 K47 K60 K145 (fX12_trim_158 K47 K60 K145 n') d v2 v3 v4 v5 v6 v7 (nI p) m (nI q) κ h' = K145 d v2 w3 w4 w5 w6 w7 (nI p) m (nI (q + 1)) h'' ∧ exQ h h'' ∧
      ((w3 = v3 ∧ w4 = v4 ∧ w5 = v5 ∧ w6 = v6 ∧ w7 = v7 ∧ ∀ j, κ.toInt ≤ j → j ≤ 99 → ¬ j = 0 → VVi h q d j → ¬ (v3.toInt < 0 ∨ (m.toInt.natAbs : Int) + j.natAbs < v3.toInt)) ∨
       (∃ k1 : Int32, (κ.toInt ≤ k1.toInt ∧ k1.toInt ≤ 99) ∧ ¬ k1.toInt = 0 ∧ VVi h q d k1.toInt ∧ w3.toInt = (m.toInt.natAbs : Int) + k1.toInt.natAbs ∧ w4 = nI p ∧ w5 = m ∧ w6 = nI q ∧ w7 = k1 ∧ (v3.toInt < 0 ∨ (m.toInt.natAbs : Int) + k1.toInt.natAbs < v3.toInt) ∧ ∀ j, κ.toInt ≤ j → j ≤ 99 → ¬ j = 0 → VVi h q d j → k1.toInt.natAbs ≤ j.natAbs)) := by
        intro hatt
        have I' := exP_IL ex.1 I
        have J' := exP_IB ex.1 J
        obtain ⟨h1, h3, a1, a2, a3, a4, a5⟩ := tryM I' J' (exP_pmp ex.1 P) (z := 1) (by omega) ex.2.1 hd rκ c0
        have ex3 : exQ h h3 := ⟨exP_t ex.1 a2, a3, fun j hj => (a4 j (by omega)).trans (ex.2.2 j hj)⟩
        unfold fX12_trim_213 fX12_trim_264
        rw [a1, bv_s]
        simp only [nm_e1]
        rcases a5 with ⟨b1, b2, b3⟩ | ⟨b1, r, h2, b2, b3, b4, b5, b6, b7, b8, -, -, b9, -⟩
        · rw [b2, bd_s, if_pos (by decide), b3, bv_s]
          refine pass h3 ex3 (fun _ z => absurd ?_ b1)
          have : VVm h' q d κ := (VV_iff I' J' (exP_pmp ex.1 P).2.1 (exP_pmp ex.1 P).2.2.1 (exP_pmp ex.1 P).2.2.2.2 hd rκ).mpr ((exP_VV ex.1 q d _).mpr z)
          exact this.1
        · have dB : Decidable (Bm h2 d) := Classical.propDecidable _
          rw [b2, bd_s, if_neg b3, e_balM b6 b7 d dB, bd_s, if10s, b9, bv_s]
          rw [exP_VV ex.1] at b8
          by_cases cb : Bm h2 d
          · have vk := b8.mp cb
            rw [if_pos cb]
            obtain ⟨h'', w3, w4, w5, w6, w7, r1, r2, r3⟩ := ih (κ + 1) h3 (iabs m + iabs κ) (nI p) m (nI q) κ (by omega) (by omega) ex3 (Or.inr (by omega)) n' (by omega)
            refine ⟨h'', w3, w4, w5, w6, w7, r1, r2, Or.inr ?_⟩
            rw [eκ, tS] at r3
            rcases r3 with ⟨x1, x2, x3, x4, x5, x6⟩ | ⟨k1, x1, x2, x3, x4, x5, x6, x7, x8, x9, x10⟩
            · refine ⟨κ, by omega, c0', vk, by rw [x1]; exact tS, x2, x3, x4, x5, hatt, fun j h1 h2 h3 h4 => ?_⟩
              by_cases z : j = κ.toInt
              · subst z; exact Nat.le_refl _
              · have := x6 j (by omega) h2 h3 h4
                omega
            · refine ⟨k1, by omega, x2, x3, x4, x5, x6, x7, x8, by omega, fun j h1 h2 h3 h4 => ?_⟩
              by_cases z : j = κ.toInt
              · subst z; omega
              · exact x10 j (by omega) h2 h3 h4
          · rw [if_neg cb]
            exact pass h3 ex3 (fun _ z => absurd (b8.mpr z) cb)
      by_cases c3 : v3 < 0
      · rw [if_pos c3]
        exact go (Or.inl (by have := i32_lt.mp c3; rw [i32_z] at this; exact this))
      · rw [if_neg c3]
        have c3' : ¬ v3.toInt < 0 := fun z => c3 (i32_lt.mpr (by rw [i32_z]; exact z))
        by_cases c4 : iabs m + iabs κ < v3
        · rw [if_pos c4]
          exact go (Or.inr (by have := i32_lt.mp c4; omega))
        · rw [if_neg c4, nm_e1]
          refine pass h' ex (fun _ _ z => ?_)
          have : ¬ (iabs m + iabs κ).toInt < v3.toInt := fun y => c4 (i32_lt.mpr y)
          omega
end TRJ
