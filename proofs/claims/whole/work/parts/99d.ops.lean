section PARL
variable {hc hm : HS}
theorem bA_s {β : Type} {sk : SK} {t a n : Nat} {f : Nat → Option β} (e : ak sk a = some (t, n)) : bA sk t a f = f n := by
  unfold bA
  rw [e]
  show ck (t == t) (f n) = f n
  rw [beq_self_eq_true, ck_t]
theorem byte_rng {x : Int32} (e : x.toInt8.toInt32 = x) : -128 ≤ x.toInt ∧ x.toInt ≤ 127 := by
  rw [← e, Int8.toInt_toInt32]
  have h1 := x.toInt8.le_toInt
  have h2 := x.toInt8.toInt_lt
  omega
theorem byte_255 {x : Int32} (e : x.toInt8.toInt32 = x) : (0 ≤ x.toInt → x &&& 255 = x) ∧ (x.toInt < 0 → 128 ≤ (x &&& 255).toInt) := by
  obtain ⟨h1, h2⟩ := byte_rng e
  have e1 : x &&& 255 = nI (x.toBitVec.toNat % 2 ^ 8) := pk_and _ 8 (by decide)
  have e2 : x.toInt = if 2 * x.toBitVec.toNat < 2 ^ 32 then (x.toBitVec.toNat : Int) else (x.toBitVec.toNat : Int) - ((2 ^ 32 : Nat) : Int) := BitVec.toInt_eq_toNat_cond x.toBitVec
  have e3 := x.toBitVec.isLt
  refine ⟨fun h => ?_, fun h => ?_⟩
  · rw [e1]
    have : x.toInt = ((x.toBitVec.toNat % 2 ^ 8 : Nat) : Int) := by
      rw [e2] at h h2 ⊢
      split at h2 <;> omega
    exact (i32_eqI this).symm
  · rw [e1, nI_toInt (by omega)]
    rw [e2] at h h1
    split at h1 <;> omega
theorem chT_Z {m : Nat → Int32} {s : Nat} (hs : s ≤ 60) : ZZ (chT m s) := fun a ha => by
  unfold chT
  rw [if_neg (by omega)]
theorem sg_out {m : Nat → Int32} {s k : Nat} (hk : s ≤ k) : SC (-1) (chT m s k) := by
  unfold chT
  rw [if_neg (by omega)]
  exact Or.inl rfl
theorem sg_m {m : Nat → Int32} {s k : Nat} (hk : k < s) : SC (m k) (chT m s k) := by
  unfold chT
  by_cases c : (0 : Int32) ≤ m k
  · rw [if_pos ⟨hk, c⟩]; exact Or.inl rfl
  · rw [if_neg (fun z => c z.2)]; exact Or.inr ⟨rfl, fun z => c z.1⟩
theorem sg_c {m : Nat → Int32} {s k : Nat} (hk : k < s) (e : (m k).toInt8.toInt32 = m k) : SC (m k &&& 255) (chT m s k) := by
  obtain ⟨b1, b2⟩ := byte_255 e
  unfold chT
  by_cases c : (0 : Int32) ≤ m k
  · have := i32_le.mp c
    rw [i32_z] at this
    rw [if_pos ⟨hk, c⟩, b1 this]; exact Or.inl rfl
  · have : ¬ 0 ≤ (m k).toInt := fun z => c (i32_le.mpr (by rw [i32_z]; exact z))
    rw [if_neg (fun z => c z.2)]
    refine Or.inr ⟨rfl, fun z => ?_⟩
    have q := i32_le.mp z.2
    rw [show (127 : Int32).toInt = 127 by decide +kernel] at q
    have := b2 (by omega)
    omega
/-- where the model stands -/
def bgM (h : HS) (q : Nat) (t u : Int32) : HS := pI (pI (pI (pI (pR h 0 26 (some q)) 0 27 t) 0 28 u) 0 29 0) 0 30 (-1)
theorem e_beginM (h : HS) (q : Nat) (t u : Int32) : fX12_begin q t u h = some (bgM h q t u) := rfl
theorem bgM_g {h : HS} {q : Nat} {t u : Int32} (b j : Nat) (z : ¬ (b = 0 ∧ 26 ≤ j ∧ j ≤ 30)) : gI (bgM h q t u) b j = gI h b j := by
  unfold bgM
  rw [gI_pI, if_neg (by omega), gI_pI, if_neg (by omega), gI_pI, if_neg (by omega), gI_pI, if_neg (by omega)]
  rfl
theorem bgM_T {h : HS} {q n t u s : Nat} (ea : ak skM q = some (2, n)) (hq : ¬ q = 0) (hs : s = min t u) (hn : s ≤ n) (hn2 : n < 2 ^ 31) (ht : t < 2 ^ 31) (hu : u < 2 ^ 31) : TM (bgM h q (nI t) (nI u)) (chT (gI h q) s) := by
  refine ⟨by unfold bgM; rw [gI_pI, if_pos ⟨rfl, rfl⟩], fun a ha => ?_⟩
  have g27 : gI (pI (bgM h q (nI t) (nI u)) 0 29 (nI a)) 0 27 = nI t := by unfold bgM; rw [gI_pI, if_neg (by decide), gI_pI, if_neg (by decide), gI_pI, if_neg (by decide), gI_pI, if_neg (by decide), gI_pI, if_pos ⟨rfl, rfl⟩]
  have g28 : gI (pI (bgM h q (nI t) (nI u)) 0 29 (nI a)) 0 28 = nI u := by unfold bgM; rw [gI_pI, if_neg (by decide), gI_pI, if_neg (by decide), gI_pI, if_neg (by decide), gI_pI, if_pos ⟨rfl, rfl⟩]
  have gr : gR (pI (bgM h q (nI t) (nI u)) 0 29 (nI a)) 0 26 = some q := rfl
  unfold fX12_here
  rw [g27, g28, g29, gr]
  by_cases c1 : t ≤ a
  · rw [if_pos (nI_le c1 (by omega))]
    exact ⟨-1, sg_out (by omega), rfl⟩
  · rw [if_neg (nI_ge (by omega) ht)]
    by_cases c2 : u ≤ a
    · rw [if_pos (nI_le c2 (by omega))]
      exact ⟨-1, sg_out (by omega), rfl⟩
    · rw [if_neg (nI_ge (by omega) hu), bR_s, bA_s ea, inb_n (show a < n by omega) hn2, ck_t, nI_clamp (by omega), gI_pI, if_neg (by omega), bgM_g q a (by omega)]
      exact ⟨_, sg_m (by omega), rfl⟩
/-- where the class stands -/
def bgC (A : Nat) (h : HS) (q : Nat) (p z : Int32) : HS := pI (pI (pI (pR h A 0 (some q)) A 2 p) A 1 z) A 3 (-1)
theorem e_beginC {A : Nat} (h : HS) {q n : Nat} (p z : Int32) (ea : ak skC q = some (1, n)) : fX2_begin A q p z h = some (bgC A h q (imax 0 p) (imin z (Int32.ofNat n))) := by
  unfold fX2_begin bgC
  rw [nm_e1, nm_e1, bA_s ea, nm_e1, nm_e1]
theorem bgC_g {A : Nat} {h : HS} {q : Nat} {p z : Int32} (b j : Nat) (y : ¬ (b = A ∧ j ≤ 3)) : gI (bgC A h q p z) b j = gI h b j := by
  unfold bgC
  rw [gI_pI, if_neg (by omega), gI_pI, if_neg (by omega), gI_pI, if_neg (by omega)]
  rfl
theorem bgC_T {A : Nat} {h : HS} {q n s : Nat} {p : Int32} {m : Nat → Int32} (ea : ak skC q = some (1, n)) (hq : ¬ q = A) (hn : s ≤ n) (hn2 : n < 2 ^ 31) (hm : ∀ k, k < s → gI h q k = m k &&& 255) (hb : ∀ k, (m k).toInt8.toInt32 = m k) : TC A (bgC A h q p (nI s)) (chT m s) := by
  refine ⟨by unfold bgC; rw [gI_pI, if_pos ⟨rfl, rfl⟩], fun a ha => ?_⟩
  have g1 : gI (pI (bgC A h q p (nI s)) A 2 (nI a)) A 1 = nI s := by unfold bgC; rw [gI_pI, if_neg (by omega), gI_pI, if_neg (by omega), gI_pI, if_pos ⟨rfl, rfl⟩]
  have g3 : gI (pI (bgC A h q p (nI s)) A 2 (nI a)) A 3 = -1 := by unfold bgC; rw [gI_pI, if_neg (by omega), gI_pI, if_pos ⟨rfl, rfl⟩]
  have gr : gR (pI (bgC A h q p (nI s)) A 2 (nI a)) A 0 = some q := by
    unfold bgC
    rw [gR_pI, gR_pI, gR_pI, gR_pI, gR_pR, if_pos ⟨rfl, rfl⟩]
  unfold fX2_peek
  rw [g1, g3, g22, gr, if_pos rfl, if_neg (nI_pos (by omega))]
  by_cases c1 : s ≤ a
  · rw [if_pos (nI_le c1 (by omega))]
    exact ⟨-1, sg_out c1, rfl⟩
  · rw [if_neg (nI_ge (by omega) (by omega)), bR_s, bA_s ea, inb_n (show a < n by omega) hn2, ck_t, nI_clamp (by omega), gI_pI, if_neg (by omega), bgC_g q a (by omega), hm a (by omega)]
    exact ⟨_, sg_c (by omega) (hb a), rfl⟩
end PARL
