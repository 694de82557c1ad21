section TLC
variable {h : HS} {m X Y : Nat → Int32} {u N t : Nat}
theorem ak_mo (ht : t < 6) : ak skC (46 + t) = some (1, 3) := by
  have : t = 0 ∨ t = 1 ∨ t = 2 ∨ t = 3 ∨ t = 4 ∨ t = 5 := by omega
  rcases this with rfl | rfl | rfl | rfl | rfl | rfl <;> decide
theorem ak_ho (ht : t < 6) : ak skC (53 + t) = some (1, 3) := by
  have : t = 0 ∨ t = 1 ∨ t = 2 ∨ t = 3 ∨ t = 4 ∨ t = 5 := by omega
  rcases this with rfl | rfl | rfl | rfl | rfl | rfl <;> decide
def cwT (X Y : Nat → Int32) (w a : Nat) : Int32 := if w = 0 then 1 else if w = 1 then X a else Y a
def moT (X Y : Nat → Int32) (w : Nat) (tm : PTm) : Int32 := if tm.1 = 98 then cwT X Y w tm.2.1 * tm.2.2.2 else 0
def hoT (X Y : Nat → Int32) (w : Nat) (tm : PTm) : Int32 := if tm.1 = 98 then 0 else if tm.1 = 118 then cwT X Y w tm.2.1 * (-tm.2.2.2) + cwT X Y w tm.2.2.1 * tm.2.2.2 else cwT X Y w tm.2.1 * tm.2.2.2
theorem moT_e (w : Nat) (s : Int32) (o p : Nat) (v : Int32) : moT X Y w (s, o, p, v) = if s = 98 then cwT X Y w o * v else 0 := rfl
theorem hoT_e (w : Nat) (s : Int32) (o p : Nat) (v : Int32) : hoT X Y w (s, o, p, v) = if s = 98 then 0 else if s = 118 then cwT X Y w o * (-v) + cwT X Y w p * v else cwT X Y w o * v := rfl
/-- where the class stands as it reads a telling -/
def KT (h : HS) (m : Nat → Int32) (u N t : Nat) (X Y : Nat → Int32) : Prop := gI h 15 1 = nI u ∧ gI h 15 3 = -1 ∧ gR h 15 0 = some 16 ∧ (∀ k, k < u → gI h 16 k = m k &&& 255) ∧ gI h 2 8 = nI N ∧ gI h 8 3 = nI t ∧ (∀ j, gI h 27 j = X j) ∧ ∀ j, gI h 28 j = Y j
def exT (t : Nat) (h h' : HS) : Prop := h'.2 = h.2 ∧ ∀ b j, ¬ b = 46 + t → ¬ b = 53 + t → gI h' b j = gI h b j
theorem exT_r : exT t h h := ⟨rfl, fun _ _ _ _ => rfl⟩
theorem exT_t {h1 h2 : HS} (a : exT t h h1) (b : exT t h1 h2) : exT t h h2 := ⟨b.1.trans a.1, fun x j z1 z2 => (b.2 x j z1 z2).trans (a.2 x j z1 z2)⟩
theorem KT_x {h' : HS} (ht : t < 6) (x : exT t h h') (K : KT h m u N t X Y) : KT h' m u N t X Y := by
  obtain ⟨k1, k2, k3, k4, k5, k6, k7, k8⟩ := K
  have g : ∀ b j, b < 46 → gI h' b j = gI h b j := fun b j z => x.2 b j (by omega) (by omega)
  refine ⟨by rw [g 15 1 (by omega), k1], by rw [g 15 3 (by omega), k2], ?_, fun k hk => by rw [g 16 k (by omega), k4 k hk], by rw [g 2 8 (by omega), k5], by rw [g 8 3 (by omega), k6], fun j => by rw [g 27 j (by omega), k7], fun j => by rw [g 28 j (by omega), k8]⟩
  show h'.2.2 15 0 = some 16
  rw [x.1]
  exact k3
theorem KT_2 {v : Int32} (K : KT h m u N t X Y) : KT (pI h 15 2 v) m u N t X Y := by
  obtain ⟨k1, k2, k3, k4, k5, k6, k7, k8⟩ := K
  have g : ∀ b j, ¬ (b = 15 ∧ j = 2) → gI (pI h 15 2 v) b j = gI h b j := fun b j z => by rw [gI_pI, if_neg z]
  exact ⟨by rw [g 15 1 (by omega), k1], by rw [g 15 3 (by omega), k2], k3, fun k hk => by rw [g 16 k (by omega), k4 k hk], by rw [g 2 8 (by omega), k5], by rw [g 8 3 (by omega), k6], fun j => by rw [g 27 j (by omega), k7], fun j => by rw [g 28 j (by omega), k8]⟩
theorem KT_T (K : KT h m u N t X Y) (hu : u ≤ 60) (hb : ∀ k, (m k).toInt8.toInt32 = m k) : TC 15 h (chT m u) := by
  obtain ⟨k1, k2, k3, k4, -⟩ := K
  refine ⟨k2, fun a ha => ?_⟩
  have g1 : gI (pI h 15 2 (nI a)) 15 1 = nI u := by rw [gI_pI, if_neg (by omega), k1]
  have g3 : gI (pI h 15 2 (nI a)) 15 3 = -1 := by rw [gI_pI, if_neg (by omega), k2]
  have gr : gR (pI h 15 2 (nI a)) 15 0 = some 16 := by rw [gR_pI, k3]
  unfold fX2_peek
  rw [g1, g3, g22, gr, if_pos rfl, if_neg (nI_pos (by omega))]
  by_cases c1 : u ≤ a
  · rw [if_pos (nI_le c1 (by omega))]
    exact ⟨-1, sg_out c1, rfl⟩
  · rw [if_neg (nI_ge (by omega) (by omega)), bR_s, bA_s (show ak skC 16 = some (1, 80) by decide), inb_n (show a < 80 by omega) (by omega), ck_t, nI_clamp (by omega), gI_pI, if_neg (by omega), k4 a (by omega)]
    exact ⟨_, sg_c (by omega) (hb a), rfl⟩
theorem th_in {j : Nat} (hN : N ≤ 15) (e : gI h 2 8 = nI N) (hj : j < N) : fX4_there (nI j) h = some (1, h) := by
  unfold fX4_there
  rw [if_neg (nI_pos (by omega)), e, if_neg (nI_ge hj (by omega))]
theorem add_ok {p j : Nat} (hN : N ≤ 15) (ea : ak skC p = some (1, 3)) (e : gI h 2 8 = nI N) (hj : j < N) (hp : 46 ≤ p) (v : Int32) : ∃ h', fX9_addTo p (nI j) v h = some h' ∧ h'.2 = h.2 ∧ (∀ b k, ¬ b = p → gI h' b k = gI h b k) ∧ ∀ w, w < 3 → gI h' p w = gI h p w + cwT (gI h 27) (gI h 28) w j * v := by
  have i0 : inb (0 : Int32) 3 = true := by decide
  have i1 : inb (1 : Int32) 3 = true := by decide
  have i2 : inb (2 : Int32) 3 = true := by decide
  have k1 : (1 : Int32).toNatClampNeg = 1 := by decide
  have k2 : (2 : Int32).toNatClampNeg = 2 := by decide
  obtain ⟨h1, e1⟩ : ∃ y, y = pI h p 0 (gI h p 0 + v) := ⟨_, rfl⟩
  obtain ⟨h2, e2⟩ : ∃ y, y = pI h1 p 1 (gI h1 p 1 + gI h1 27 j * v) := ⟨_, rfl⟩
  obtain ⟨h3, e3⟩ : ∃ y, y = pI h2 p 2 (gI h2 p 2 + gI h2 28 j * v) := ⟨_, rfl⟩
  have G1 : ∀ b k, gI h1 b k = if b = p ∧ k = 0 then gI h p 0 + v else gI h b k := fun b k => by rw [e1, gI_pI]
  have G2 : ∀ b k, gI h2 b k = if b = p ∧ k = 1 then gI h1 p 1 + gI h1 27 j * v else gI h1 b k := fun b k => by rw [e2, gI_pI]
  have G3 : ∀ b k, gI h3 b k = if b = p ∧ k = 2 then gI h2 p 2 + gI h2 28 j * v else gI h2 b k := fun b k => by rw [e3, gI_pI]
  refine ⟨h3, ?_, by rw [e3, e2, e1]; rfl, fun b k z => by rw [G3, if_neg (fun y => z y.1), G2, if_neg (fun y => z y.1), G1, if_neg (fun y => z y.1)], fun w hw => ?_⟩
  · unfold fX9_addTo
    rw [th_in hN e hj, bd_s, if_neg (by decide)]
    simp only [bA_s ea, i0, i1, i2, ck_t, cl0, k1, k2, nm_e1, inb_n (show j < 15 by omega) (show 15 < 2 ^ 31 by omega), nI_clamp (show j < 2 ^ 31 by omega)]
    rw [← e1, ← e2, ← e3]
  · have q27 : gI h1 27 j = gI h 27 j := by rw [G1, if_neg (by omega)]
    have q28 : gI h2 28 j = gI h 28 j := by rw [G2, if_neg (by omega), G1, if_neg (by omega)]
    unfold cwT
    have c : w = 0 ∨ w = 1 ∨ w = 2 := by omega
    rcases c with rfl | rfl | rfl
    · rw [G3, if_neg (by omega), G2, if_neg (by omega), G1, if_pos ⟨rfl, rfl⟩, if_pos rfl, Int32.one_mul]
    · rw [G3, if_neg (by omega), G2, if_pos ⟨rfl, rfl⟩, q27, G1, if_neg (by omega), if_neg (by omega), if_pos rfl]
    · rw [G3, if_pos ⟨rfl, rfl⟩, q28, G2, if_neg (by omega), G1, if_neg (by omega), if_neg (by omega), if_neg (by omega)]
theorem add_no {p : Nat} {v2 v : Int32} (z : v2 < 0) : fX9_addTo p v2 v h = some h := by
  unfold fX9_addTo fX4_there
  rw [if_pos z, bd_s, if_pos rfl]
theorem add_any {p : Nat} (hN : N ≤ 15) (ea : ak skC p = some (1, 3)) (e : gI h 2 8 = nI N) (hp : 46 ≤ p) (v2 v : Int32) : ∃ h', fX9_addTo p v2 v h = some h' ∧ h'.2 = h.2 ∧ (∀ b k, ¬ b = p → gI h' b k = gI h b k) := by
  by_cases c1 : v2 < 0
  · exact ⟨h, add_no c1, rfl, fun _ _ _ => rfl⟩
  · by_cases c2 : nI N ≤ v2
    · refine ⟨h, ?_, rfl, fun _ _ _ => rfl⟩
      unfold fX9_addTo fX4_there
      rw [if_neg c1, e, if_pos c2, bd_s, if_pos rfl]
    · obtain ⟨j, j1, rfl⟩ := nI_of c1
      have hj : j < N := by
        by_cases z : j < N
        · exact z
        · exact absurd (nI_le (by omega) j1) c2
      obtain ⟨h', a1, a2, a3, -⟩ := add_ok hN ea e hj hp v
      exact ⟨h', a1, a2, a3⟩
theorem t117_any {h1 : HS} {r v1 v2 v3 s0 : Int32} (hN : N ≤ 15) (ht : t < 6) (en : fX2_number 15 3 h = some (r, h1)) (e : gI h1 2 8 = nI N) (e8 : gI h1 8 3 = nI t) : ∃ h', fX9_readTerm_117 v1 v2 v3 s0 h = some h' ∧ exT t h1 h' := by
  unfold fX9_readTerm_117
  rw [en, bd_s, nm_e1, e8, inb_n (show t < 6 by omega) (by omega), ck_t, ck_t, nI_clamp (by omega)]
  by_cases c : v1 = 98
  · obtain ⟨h', a1, a2, a3⟩ := add_any (p := 46 + t) hN (ak_mo ht) e (by omega) v2 (s0 * r)
    rw [if_pos c, a1, bv_s]
    exact ⟨h', rfl, a2, fun b j z1 z2 => a3 b j z1⟩
  · rw [if_neg c]
    have two : ∀ s : Int32, ∃ h', fX9_readTerm_182 v3 (s0 * r) s v2 (53 + t) h1 = some h' ∧ exT t h1 h' := fun s => by
      unfold fX9_readTerm_182
      obtain ⟨h2, a1, a2, a3⟩ := add_any (p := 53 + t) hN (ak_ho ht) e (by omega) v2 s
      have e' : gI h2 2 8 = nI N := by rw [a3 2 8 (by omega), e]
      have e8' : gI h2 8 3 = nI t := by rw [a3 8 3 (by omega), e8]
      obtain ⟨h3, b1, b2, b3⟩ := add_any (p := 53 + t) hN (ak_ho ht) e' (by omega) v3 (s0 * r)
      rw [a1, bv_s, e8', inb_n (show t < 6 by omega) (by omega), ck_t, nI_clamp (by omega), b1, bv_s]
      exact ⟨h3, rfl, b2.trans a2, fun b j z1 z2 => (b3 b j z2).trans (a3 b j z2)⟩
    by_cases c2 : v1 = 118
    · rw [if_pos c2]; exact two _
    · rw [if_neg c2]; exact two _
theorem t117_ok {h1 : HS} {r v1 v3 s0 : Int32} {o p : Nat} (hN : N ≤ 15) (ht : t < 6) (en : fX2_number 15 3 h = some (r, h1)) (K : KT h1 m u N t X Y) (ho : o < N) (hv : (v1 = 108 ∧ v3 = -1) ∨ (v1 = 118 ∧ v3 = nI p ∧ p < N) ∨ v1 = 98) : ∃ h', fX9_readTerm_117 v1 (nI o) v3 s0 h = some h' ∧ exT t h1 h' ∧ ∀ w, w < 3 → gI h' (46 + t) w = gI h1 (46 + t) w + moT X Y w (v1, o, p, s0 * r) ∧ gI h' (53 + t) w = gI h1 (53 + t) w + hoT X Y w (v1, o, p, s0 * r) := by
  obtain ⟨-, -, -, -, e, e8, k7, k8⟩ := K
  have f27 : gI h1 27 = X := funext k7
  have f28 : gI h1 28 = Y := funext k8
  unfold fX9_readTerm_117
  rw [en, bd_s, nm_e1, e8, inb_n (show t < 6 by omega) (by omega), ck_t, ck_t, nI_clamp (by omega)]
  rcases hv with ⟨rfl, rfl⟩ | ⟨rfl, rfl, hp⟩ | rfl
  · rw [if_neg (by decide), if_neg (by decide)]
    unfold fX9_readTerm_182
    obtain ⟨h2, a1, a2, a3, a4⟩ := add_ok (p := 53 + t) hN (ak_ho ht) e ho (by omega) (s0 * r)
    have e8' : gI h2 8 3 = nI t := by rw [a3 8 3 (by omega), e8]
    rw [a1, bv_s, e8', inb_n (show t < 6 by omega) (by omega), ck_t, nI_clamp (by omega), add_no (by decide), bv_s]
    refine ⟨h2, rfl, ⟨a2, fun b j z1 z2 => a3 b j z2⟩, fun w hw => ⟨?_, ?_⟩⟩
    · rw [moT_e, if_neg (by decide), Int32.add_zero, a3 (46 + t) w (by omega)]
    · rw [hoT_e, if_neg (by decide), if_neg (by decide), a4 w hw, f27, f28]
  · rw [if_neg (by decide), if_pos rfl]
    unfold fX9_readTerm_182
    obtain ⟨h2, a1, a2, a3, a4⟩ := add_ok (p := 53 + t) hN (ak_ho ht) e ho (by omega) (-(s0 * r))
    have e' : gI h2 2 8 = nI N := by rw [a3 2 8 (by omega), e]
    have e8' : gI h2 8 3 = nI t := by rw [a3 8 3 (by omega), e8]
    obtain ⟨h3, b1, b2, b3, b4⟩ := add_ok (p := 53 + t) hN (ak_ho ht) e' hp (by omega) (s0 * r)
    have f27' : gI h2 27 = X := funext fun j => by rw [a3 27 j (by omega), k7]
    have f28' : gI h2 28 = Y := funext fun j => by rw [a3 28 j (by omega), k8]
    rw [a1, bv_s, e8', inb_n (show t < 6 by omega) (by omega), ck_t, nI_clamp (by omega), b1, bv_s]
    refine ⟨h3, rfl, ⟨b2.trans a2, fun b j z1 z2 => (b3 b j z2).trans (a3 b j z2)⟩, fun w hw => ⟨?_, ?_⟩⟩
    · rw [moT_e, if_neg (by decide), Int32.add_zero, b3 (46 + t) w (by omega), a3 (46 + t) w (by omega)]
    · rw [hoT_e, if_neg (by decide), if_pos rfl, b4 w hw, a4 w hw, f27, f28, f27', f28', Int32.add_assoc]
  · rw [if_pos rfl]
    obtain ⟨h2, a1, a2, a3, a4⟩ := add_ok (p := 46 + t) hN (ak_mo ht) e ho (by omega) (s0 * r)
    rw [a1, bv_s]
    refine ⟨h2, rfl, ⟨a2, fun b j z1 z2 => a3 b j z1⟩, fun w hw => ⟨?_, ?_⟩⟩
    · rw [moT_e, if_pos rfl, a4 w hw, f27, f28]
    · rw [hoT_e, if_pos rfl, Int32.add_zero, a3 (53 + t) w (by omega)]
end TLC
