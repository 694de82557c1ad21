section CNV
/-- the moment of a sum that is put to tanks one behind the other -/
def mwL (x m : Nat → Int) : List Nat → Int → Int
  | [], _ => 0
  | j :: r, s => x j * min s (m j) + mwL x m r (s - min s (m j))
def allL (m : Nat → Int) : List Nat → Int
  | [] => 0
  | j :: r => m j + allL m r
def momL (x m : Nat → Int) : List Nat → Int
  | [] => 0
  | j :: r => x j * m j + momL x m r
theorem allL_nn {m : Nat → Int} : ∀ {L : List Nat}, (∀ j ∈ L, 0 ≤ m j) → 0 ≤ allL m L
  | [], _ => Int.le_refl 0
  | j :: r, h => by
    have h1 := h j List.mem_cons_self
    have h2 := allL_nn (fun k hk => h k (List.mem_cons_of_mem _ hk))
    rw [allL]
    omega
theorem allL_app {m : Nat → Int} : ∀ {A B : List Nat}, allL m (A ++ B) = allL m A + allL m B
  | [], B => by rw [List.nil_append, allL, Int.zero_add]
  | j :: r, B => by rw [List.cons_append, allL, allL, allL_app, Int.add_assoc]
theorem momL_app {x m : Nat → Int} : ∀ {A B : List Nat}, momL x m (A ++ B) = momL x m A + momL x m B
  | [], B => by rw [List.nil_append, momL, Int.zero_add]
  | j :: r, B => by rw [List.cons_append, momL, momL, momL_app, Int.add_assoc]
theorem mw_0 {x m : Nat → Int} : ∀ {L : List Nat}, (∀ j ∈ L, 0 ≤ m j) → mwL x m L 0 = 0
  | [], _ => rfl
  | j :: r, h => by
    have h1 := h j List.mem_cons_self
    rw [mwL, show min 0 (m j) = 0 by omega, Int.mul_zero, Int.sub_zero, mw_0 (fun k hk => h k (List.mem_cons_of_mem _ hk)), Int.zero_add]
theorem mw_app {x m : Nat → Int} : ∀ {A B : List Nat} {k : Int}, (∀ j ∈ A, 0 ≤ m j) → 0 ≤ k → mwL x m (A ++ B) (allL m A + k) = momL x m A + mwL x m B k
  | [], B, k, _, _ => by rw [List.nil_append, allL, momL, Int.zero_add, Int.zero_add]
  | j :: r, B, k, h, hk => by
    have h1 := h j List.mem_cons_self
    have h2 := allL_nn (fun k hk => h k (List.mem_cons_of_mem _ hk))
    have ih := mw_app (x := x) (m := m) (A := r) (B := B) (k := k) (fun k hk => h k (List.mem_cons_of_mem _ hk)) hk
    rw [List.cons_append, mwL, allL, momL, show min (m j + allL m r + k) (m j) = m j by omega, show m j + allL m r + k - m j = allL m r + k by omega, ih, Int.add_assoc]
theorem mw_mono {x m : Nat → Int} : ∀ {L : List Nat} {a b : Int}, (∀ j ∈ L, 0 ≤ x j) → (∀ j ∈ L, 0 ≤ m j) → a ≤ b → mwL x m L a ≤ mwL x m L b
  | [], _, _, _, _, _ => Int.le_refl 0
  | j :: r, a, b, hx, hm, hab => by
    have h1 := hx j List.mem_cons_self
    have ih := mw_mono (x := x) (m := m) (L := r) (a := a - min a (m j)) (b := b - min b (m j)) (fun k hk => hx k (List.mem_cons_of_mem _ hk)) (fun k hk => hm k (List.mem_cons_of_mem _ hk)) (by omega)
    have h2 : x j * min a (m j) ≤ x j * min b (m j) := Int.mul_le_mul_of_nonneg_left (by omega) h1
    rw [mwL, mwL]
    omega
theorem mw_conv {x m : Nat → Int} : ∀ {L : List Nat} {a s b T : Int}, L.Pairwise (fun i j => x i ≤ x j) → (∀ j ∈ L, 0 ≤ m j) → 0 ≤ a → a ≤ s → s ≤ b → mwL x m L a ≤ T → mwL x m L b ≤ T → mwL x m L s ≤ T
  | [], a, s, b, T, _, _, _, _, _, h1, _ => h1
  | j :: r, a, s, b, T, hp, hm, h0, h1, h2, ha, hb => by
    have hp' := List.pairwise_cons.mp hp
    have hmj := hm j List.mem_cons_self
    have hmr : ∀ k ∈ r, 0 ≤ m k := fun k hk => hm k (List.mem_cons_of_mem _ hk)
    have z0 := mw_0 (x := x) hmr
    by_cases c1 : b ≤ m j
    · rw [mwL, show min a (m j) = a by omega, Int.sub_self, z0] at ha
      rw [mwL, show min b (m j) = b by omega, Int.sub_self, z0] at hb
      rw [mwL, show min s (m j) = s by omega, Int.sub_self, z0]
      by_cases cx : 0 ≤ x j
      · have : x j * s ≤ x j * b := Int.mul_le_mul_of_nonneg_left h2 cx
        omega
      · have : x j * s ≤ x j * a := Int.mul_le_mul_of_nonpos_left (by omega) h1
        omega
    · by_cases c2 : m j ≤ a
      · rw [mwL, show min a (m j) = m j by omega] at ha
        rw [mwL, show min b (m j) = m j by omega] at hb
        rw [mwL, show min s (m j) = m j by omega]
        have := mw_conv (x := x) (m := m) (L := r) (a := a - m j) (s := s - m j) (b := b - m j) (T := T - x j * m j) hp'.2 hmr (by omega) (by omega) (by omega) (by omega) (by omega)
        omega
      · by_cases cx : 0 ≤ x j
        · have := mw_mono (x := x) (m := m) (L := j :: r) (a := s) (b := b) (fun k hk => by
            rcases List.mem_cons.mp hk with rfl | hk
            · exact cx
            · have := hp'.1 k hk; omega) hm h2
          omega
        · rw [mwL, show min a (m j) = a by omega, Int.sub_self, z0] at ha
          by_cases c3 : s ≤ m j
          · rw [mwL, show min s (m j) = s by omega, Int.sub_self, z0]
            have : x j * s ≤ x j * a := Int.mul_le_mul_of_nonpos_left (by omega) h1
            omega
          · rw [mwL, show min b (m j) = m j by omega] at hb
            rw [mwL, show min s (m j) = m j by omega]
            have h5 : x j * m j ≤ x j * a := Int.mul_le_mul_of_nonpos_left (by omega) (by omega)
            have := mw_conv (x := x) (m := m) (L := r) (a := 0) (s := s - m j) (b := b - m j) (T := T - x j * m j) hp'.2 hmr (by omega) (by omega) (by omega) (by omega) (by omega)
            omega
theorem mw_neg {x m : Nat → Int} : ∀ {L : List Nat} {s : Int}, mwL (fun j => -x j) m L s = -mwL x m L s
  | [], _ => rfl
  | j :: r, s => by rw [mwL, mwL, mw_neg, Int.neg_mul, Int.neg_add]
/-- bent down: at or above -/
theorem mw_conc {x m : Nat → Int} {L : List Nat} {a s b T : Int} (hp : L.Pairwise (fun i j => x j ≤ x i)) (hm : ∀ j ∈ L, 0 ≤ m j) (h0 : 0 ≤ a) (h1 : a ≤ s) (h2 : s ≤ b) (ha : T ≤ mwL x m L a) (hb : T ≤ mwL x m L b) : T ≤ mwL x m L s := by
  have := mw_conv (x := fun j => -x j) (m := m) (L := L) (a := a) (s := s) (b := b) (T := -T) (hp.imp (fun h => by omega)) hm h0 h1 h2 (by rw [mw_neg]; omega) (by rw [mw_neg]; omega)
  rw [mw_neg] at this
  omega
/-- how far a moment can go -/
theorem mw_rng {x m : Nat → Int} : ∀ {L : List Nat} {s : Int}, (∀ j ∈ L, -99 ≤ x j ∧ x j ≤ 99) → (∀ j ∈ L, 0 ≤ m j ∧ m j ≤ 999) → 0 ≤ s → -(98901 * (L.length : Int)) ≤ mwL x m L s ∧ mwL x m L s ≤ 98901 * (L.length : Int)
  | [], _, _, _, _ => by rw [mwL]; simp
  | j :: r, s, hx, hm, hs => by
    have h1 := hx j List.mem_cons_self
    have h2 := hm j List.mem_cons_self
    have ih := mw_rng (x := x) (m := m) (L := r) (s := s - min s (m j)) (fun k hk => hx k (List.mem_cons_of_mem _ hk)) (fun k hk => hm k (List.mem_cons_of_mem _ hk)) (by omega)
    have pb : (x j * min s (m j)).natAbs ≤ 99 * 999 := by
      rw [Int.natAbs_mul]
      exact Nat.mul_le_mul (by omega) (by omega)
    rw [mwL, List.length_cons]
    omega
theorem momL_rng {x m : Nat → Int} : ∀ {L : List Nat}, (∀ j ∈ L, -99 ≤ x j ∧ x j ≤ 99) → (∀ j ∈ L, 0 ≤ m j ∧ m j ≤ 999) → -(98901 * (L.length : Int)) ≤ momL x m L ∧ momL x m L ≤ 98901 * (L.length : Int)
  | [], _, _ => by rw [momL]; simp
  | j :: r, hx, hm => by
    have h1 := hx j List.mem_cons_self
    have h2 := hm j List.mem_cons_self
    have ih := momL_rng (x := x) (m := m) (L := r) (fun k hk => hx k (List.mem_cons_of_mem _ hk)) (fun k hk => hm k (List.mem_cons_of_mem _ hk))
    have pb : (x j * m j).natAbs ≤ 99 * 999 := by
      rw [Int.natAbs_mul]
      exact Nat.mul_le_mul (by omega) (by omega)
    rw [momL, List.length_cons]
    omega
theorem allL_rng {m : Nat → Int} : ∀ {L : List Nat}, (∀ j ∈ L, 0 ≤ m j ∧ m j ≤ 999) → 0 ≤ allL m L ∧ allL m L ≤ 999 * (L.length : Int)
  | [], _ => by rw [allL]; simp
  | j :: r, hm => by
    have h2 := hm j List.mem_cons_self
    have ih := allL_rng (m := m) (L := r) (fun k hk => hm k (List.mem_cons_of_mem _ hk))
    rw [allL, List.length_cons]
    omega
/-- tanks from aft stand by their places -/
theorem insR_sorted {x : Nat → Int32} {l : Nat} : ∀ {R : List Nat}, R.Pairwise (fun i j => (x j).toInt ≤ (x i).toInt) → (insR x l R).Pairwise (fun i j => (x j).toInt ≤ (x i).toInt)
  | [], _ => by rw [insR]; exact List.pairwise_singleton _ _
  | a :: r, h => by
    have h' := List.pairwise_cons.mp h
    rw [insR]
    by_cases c : x l < x a
    · rw [if_pos c]
      refine List.pairwise_cons.mpr ⟨fun j hj => ?_, insR_sorted h'.2⟩
      rcases insR_mem.mp hj with rfl | hj
      · have := i32_lt.mp c; omega
      · exact h'.1 j hj
    · rw [if_neg c]
      have c' : ¬ (x l).toInt < (x a).toInt := fun z => c (i32_lt.mpr z)
      refine List.pairwise_cons.mpr ⟨fun j hj => ?_, h⟩
      rcases List.mem_cons.mp hj with rfl | hj
      · omega
      · have := h'.1 j hj; omega
theorem ordR_sorted {kd x : Nat → Int32} : ∀ {n : Nat}, (ordR kd x n).Pairwise (fun i j => (x j).toInt ≤ (x i).toInt)
  | 0 => List.Pairwise.nil
  | n + 1 => by
    rw [ordR]
    split
    · exact insR_sorted ordR_sorted
    · exact ordR_sorted
theorem tanks_sorted (hm : HS) : (tanksM hm).Pairwise (fun i j => (gI hm 2 i).toInt ≤ (gI hm 2 j).toInt) := by
  unfold tanksM
  rw [List.pairwise_reverse]
  exact ordR_sorted
end CNV
