section GRO
variable {hc hm : HS}
theorem nI_or (a b : Nat) : nI a ||| nI b = nI (a ||| b) := by
  apply Int32.toBitVec_inj.mp
  show BitVec.ofNat 32 a ||| BitVec.ofNat 32 b = BitVec.ofNat 32 (a ||| b)
  apply BitVec.eq_of_toNat_eq
  rw [BitVec.toNat_or, BitVec.toNat_ofNat, BitVec.toNat_ofNat, BitVec.toNat_ofNat, Nat.or_mod_two_pow]
theorem nI_shl {p : Nat} (hp : p < 15) : (1 : Int32) <<< (nI p &&& 31) = nI (2 ^ p) := by
  have : ∀ k : Fin 15, (1 : Int32) <<< (nI k.val &&& 31) = nI (2 ^ k.val) := by decide +kernel
  exact this ⟨p, hp⟩
theorem gb {M j : Nat} (hM : M < 2 ^ 15) (hj : j ≤ 15) : btP (nI M) j = 1 ↔ M.testBit j = true := by
  rw [btP_n (by omega) hj, Nat.testBit_eq_decide_div_mod_eq, decide_eq_true_iff]
  have : M / 2 ^ j % 2 = 0 ∨ M / 2 ^ j % 2 = 1 := by omega
  rcases this with z | z <;> rw [z] <;> decide
theorem or_bit {M p j : Nat} : (M ||| 2 ^ p).testBit j = (M.testBit j || decide (p = j)) := by
  rw [Nat.testBit_or, Nat.testBit_two_pow]
def cnd (h : HS) (N M j : Nat) : Prop := j < N ∧ gI h 1 j = 0 ∧ M.testBit j = false
def bst (h : HS) (N M p : Nat) : Prop := cnd h N M p ∧ ∀ j, cnd h N M j → (gI h 5 j).toInt ≤ (gI h 5 p).toInt ∧ (j < p → (gI h 5 j).toInt < (gI h 5 p).toInt)
theorem l_g60 {N M : Nat} (hN : N ≤ 15) (hM : M < 2 ^ 15) {h : HS} (e : gI h 0 0 = nI N) (K : Int32 → Int32 → Int32 → HS → Option (Int32 × HS)) (v3 v4 : Int32) : ∀ (k i : Nat) (v6 : Int32), i + k = N → ((v6 = -1 ∧ ∀ j, ¬ cnd h i M j) ∨ ∃ p, v6 = nI p ∧ bst h i M p) → ∀ n, k < n → ((∀ j, ¬ cnd h N M j) ∧ fX12_ground_60 K n v3 v4 (nI M) v6 (nI i) h = fX12_ground_176 v3 v4 h) ∨ ∃ p, bst h N M p ∧ fX12_ground_60 K n v3 v4 (nI M) v6 (nI i) h = K v3 (v4 - imin v4 (gI h 5 p)) (nI (M ||| 2 ^ p)) (pI h 5 p (gI h 5 p - imin v4 (gI h 5 p))) := by
  intro k
  induction k with
  | zero =>
    intro i v6 hi rel n hn
    obtain ⟨m, rfl⟩ := fuel1 hn
    have hi' : i = N := by omega
    subst hi'
    rw [fX12_ground_60, e, if_pos (nI_le (by omega) (by omega))]
    rcases rel with ⟨y1, y2⟩ | ⟨p, y1, y2⟩
    · exact Or.inl ⟨y2, by rw [if_pos y1]⟩
    · have hp : p < i := y2.1.1
      have np : ¬ nI p = (-1 : Int32) := fun z => m1_ne (by omega) z.symm
      refine Or.inr ⟨p, y2, ?_⟩
      rw [y1, if_neg np]
      simp only [inb_n (show p < 15 by omega) (show 15 < 2 ^ 31 by omega), ck_t, nI_clamp (show p < 2 ^ 31 by omega), nm_e1, nI_shl (show p < 15 by omega), nI_or]
  | succ k ih =>
    intro i v6 hi rel n hn
    obtain ⟨m, rfl⟩ := fuel1 hn
    rw [fX12_ground_60, e, if_neg (nI_ge (by omega) (by omega)), inb_n (show i < 15 by omega) (by omega), ck_t, nI_clamp (by omega)]
    simp only [nm_e1, nI_1, e_has, bd_s]
    have keep : ¬ cnd h (i + 1) M i → ((v6 = -1 ∧ ∀ j, ¬ cnd h (i + 1) M j) ∨ ∃ p, v6 = nI p ∧ bst h (i + 1) M p) := fun nc => by
      have dn : ∀ j, cnd h (i + 1) M j → cnd h i M j := fun j hj => by
        by_cases z : j = i
        · exact absurd (z ▸ hj) nc
        · exact ⟨by have := hj.1; omega, hj.2⟩
      rcases rel with ⟨y1, y2⟩ | ⟨p, y1, y2, y3⟩
      · exact Or.inl ⟨y1, fun j hj => y2 j (dn j hj)⟩
      · exact Or.inr ⟨p, y1, ⟨by have := y2.1; omega, y2.2⟩, fun j hj => y3 j (dn j hj)⟩
    by_cases c1 : gI h 1 i = 0
    · rw [if_pos c1]
      by_cases c2 : btP (nI M) i = 1
      · rw [if_pos c2, if_neg (by decide)]
        exact ih (i + 1) v6 (by omega) (keep (fun z => by have := (gb hM (by omega)).mp c2; rw [z.2.2] at this; cases this)) m (by omega)
      · have b0 : M.testBit i = false := by
          cases z : M.testBit i with
          | false => rfl
          | true => exact absurd ((gb hM (by omega)).mpr z) c2
        rw [if_neg c2, if_pos rfl]
        unfold fX12_ground_112
        simp only [nm_e1, nI_1]
        have ci : cnd h (i + 1) M i := ⟨by omega, c1, b0⟩
        rcases rel with ⟨y1, y2⟩ | ⟨p, y1, y2, y3⟩
        · rw [if_pos y1]
          refine ih (i + 1) (nI i) (by omega) (Or.inr ⟨i, rfl, ci, fun j hj => ?_⟩) m (by omega)
          by_cases z : j = i
          · subst z; exact ⟨Int.le_refl _, fun q => by omega⟩
          · exact absurd ⟨by have := hj.1; omega, hj.2⟩ (y2 j)
        · have hp : p < i := y2.1
          have np : ¬ nI p = (-1 : Int32) := fun z => m1_ne (by omega) z.symm
          have ih' := ih (i + 1)
          rw [y1, if_neg np]
          simp only [inb_n (show i < 15 by omega) (show 15 < 2 ^ 31 by omega), inb_n (show p < 15 by omega) (show 15 < 2 ^ 31 by omega), ck_t, nI_clamp (show p < 2 ^ 31 by omega)]
          by_cases c3 : gI h 5 i ≤ gI h 5 p
          · rw [if_pos c3]
            have c3' := i32_le.mp c3
            refine ih (i + 1) (nI p) (by omega) (Or.inr ⟨p, rfl, ⟨by omega, y2.2⟩, fun j hj => ?_⟩) m (by omega)
            by_cases z : j = i
            · subst z; exact ⟨c3', fun q => by omega⟩
            · exact y3 j ⟨by have := hj.1; omega, hj.2⟩
          · rw [if_neg c3]
            have c3' : ¬ (gI h 5 i).toInt ≤ (gI h 5 p).toInt := fun z => c3 (i32_le.mpr z)
            refine ih (i + 1) (nI i) (by omega) (Or.inr ⟨i, rfl, ci, fun j hj => ?_⟩) m (by omega)
            by_cases z : j = i
            · subst z; exact ⟨Int.le_refl _, fun q => by omega⟩
            · have := y3 j ⟨by have := hj.1; omega, hj.2⟩
              exact ⟨by omega, fun _ => by omega⟩
    · rw [if_neg c1]
      exact ih (i + 1) v6 (by omega) (keep (fun z => c1 z.2.1)) m (by omega)
/-- the fullest tank, as the class finds it -/
def full (h : HS) (L : List Nat) (p : Nat) : Prop := p ∈ L ∧ ∀ j ∈ L, (gI h 30 j).toInt ≤ (gI h 30 p).toInt ∧ (gI h 30 j = gI h 30 p → p ≤ j)
theorem l_full {h : HS} {L : List Nat} (h15 : L.length ≤ 15) (e7 : gI h 2 7 = nI L.length) (hL : ∀ j ∈ L, j < 15) (hh : holdsL h L) : ∀ (k i p : Nat), i + k = L.length → full h (L.take i) p → ∀ n, k < n → ∃ p', fX4_fullestTank_9 n (nI p) (nI i) h = some (nI p', h) ∧ full h L p' := by
  intro k
  induction k with
  | zero =>
    intro i p hi hf n hn
    obtain ⟨m, rfl⟩ := fuel1 hn
    rw [List.take_of_length_le (by omega)] at hf
    exact ⟨p, by rw [fX4_fullestTank_9, e7, if_pos (nI_le (by omega) (by omega))], hf⟩
  | succ k ih =>
    intro i p hi hf n hn
    obtain ⟨m, rfl⟩ := fuel1 hn
    have hil : i < L.length := by omega
    have ea := hh i L[i] (List.getElem?_eq_getElem hil)
    have ha : L[i] < 15 := hL _ (List.getElem_mem hil)
    have hp : p < 15 := hL _ (List.mem_of_mem_take hf.1)
    obtain ⟨a, ea'⟩ : ∃ a, a = L[i] := ⟨_, rfl⟩
    have tk : ∀ j, j ∈ L.take (i + 1) ↔ j ∈ L.take i ∨ j = a := fun j => by
      rw [List.take_succ_eq_append_getElem hil, List.mem_append, List.mem_singleton, ea']
    rw [← ea'] at ea ha
    rw [fX4_fullestTank_9, e7, if_neg (nI_ge (by omega) (by omega)), inb_n (show i < 15 by omega) (by omega), ck_t, nI_clamp (by omega), ea]
    simp only [nm_e1, nI_1, inb_n ha (show 15 < 2 ^ 31 by omega), inb_n hp (show 15 < 2 ^ 31 by omega), ck_t, nI_clamp (show a < 2 ^ 31 by omega), nI_clamp (show p < 2 ^ 31 by omega)]
    unfold fX4_fullestTank_59
    simp only [nm_e1, nI_1]
    have q0 := hf.2
    by_cases c1 : gI h 30 p < gI h 30 a
    · rw [if_pos c1]
      have c1' := i32_lt.mp c1
      refine ih (i + 1) a (by omega) ⟨(tk a).mpr (Or.inr rfl), fun j hj => ?_⟩ m (by omega)
      rcases (tk j).mp hj with z | z
      · have := (q0 j z).1
        exact ⟨by omega, fun q => by rw [q] at this; omega⟩
      · rw [z]; exact ⟨Int.le_refl _, fun _ => Nat.le_refl _⟩
    · rw [if_neg c1]
      have c1' : ¬ (gI h 30 p).toInt < (gI h 30 a).toInt := fun z => c1 (i32_lt.mpr z)
      by_cases c2 : gI h 30 a = gI h 30 p
      · rw [if_pos c2]
        by_cases c3 : nI p ≤ nI a
        · rw [if_pos c3]
          have c3' : p ≤ a := by
            have := i32_le.mp c3
            rw [nI_toInt (by omega), nI_toInt (by omega)] at this
            omega
          refine ih (i + 1) p (by omega) ⟨(tk p).mpr (Or.inl hf.1), fun j hj => ?_⟩ m (by omega)
          rcases (tk j).mp hj with z | z
          · exact q0 j z
          · rw [z]; exact ⟨by omega, fun _ => c3'⟩
        · rw [if_neg c3]
          have c3' : a < p := by
            by_cases z : p ≤ a
            · exact absurd (nI_le z (by omega)) c3
            · omega
          refine ih (i + 1) a (by omega) ⟨(tk a).mpr (Or.inr rfl), fun j hj => ?_⟩ m (by omega)
          rcases (tk j).mp hj with z | z
          · have := q0 j z
            rw [c2]
            exact ⟨this.1, fun q => by have := this.2 q; omega⟩
          · rw [z]; exact ⟨Int.le_refl _, fun _ => Nat.le_refl _⟩
      · rw [if_neg c2]
        refine ih (i + 1) p (by omega) ⟨(tk p).mpr (Or.inl hf.1), fun j hj => ?_⟩ m (by omega)
        rcases (tk j).mp hj with z | z
        · exact q0 j z
        · rw [z]; exact ⟨by omega, fun q => absurd q c2⟩
theorem e_full {h : HS} {L : List Nat} (h15 : L.length ≤ 15) (h0 : 0 < L.length) (e7 : gI h 2 7 = nI L.length) (hL : ∀ j ∈ L, j < 15) (hh : holdsL h L) : ∃ p, fX4_fullestTank h = some (nI p, h) ∧ full h L p := by
  have ea := hh 0 L[0] (List.getElem?_eq_getElem h0)
  obtain ⟨p, b1, b2⟩ := l_full h15 e7 hL hh (L.length - 1) 1 L[0] (by omega) (by
    rw [List.take_succ_eq_append_getElem h0]
    refine ⟨by simp, fun j hj => ?_⟩
    have : j = L[0] := by simpa using hj
    rw [this]; exact ⟨Int.le_refl _, fun _ => Nat.le_refl _⟩) FU (FU_gt (by omega))
  refine ⟨p, ?_, b2⟩
  unfold fX4_fullestTank
  rw [nm_e1, ea]
  exact b1
/-- lists -/
theorem cnt_lt {q p : Nat → Bool} (hq : ∀ j, q j = true → p j = true) {x : Nat} (h1 : p x = true) (h2 : q x = false) : ∀ {L : List Nat}, x ∈ L → (L.filter q).length < (L.filter p).length := by
  have le : ∀ L : List Nat, (L.filter q).length ≤ (L.filter p).length := by
    intro L
    induction L with
    | nil => exact Nat.le_refl _
    | cons a r ih =>
      rw [List.filter_cons, List.filter_cons]
      by_cases z : q a = true
      · rw [if_pos z, if_pos (hq a z), List.length_cons, List.length_cons]; omega
      · rw [if_neg z]
        by_cases y : p a = true
        · rw [if_pos y, List.length_cons]; omega
        · rw [if_neg y]; exact ih
  intro L
  induction L with
  | nil => intro hx; cases hx
  | cons a r ih =>
    intro hx
    have l := le r
    rw [List.filter_cons, List.filter_cons]
    by_cases y : x = a
    · subst y
      rw [if_neg (by rw [h2]; decide), if_pos h1, List.length_cons]; omega
    · have := ih (by rcases List.mem_cons.mp hx with w | w; exact absurd w y; exact w)
      by_cases z : q a = true
      · rw [if_pos z, if_pos (hq a z), List.length_cons, List.length_cons]; omega
      · rw [if_neg z]
        by_cases y : p a = true
        · rw [if_pos y, List.length_cons]; omega
        · rw [if_neg y]; exact this
theorem insR_nd {x : Nat → Int32} {l : Nat} : ∀ {L : List Nat}, L.Nodup → l ∉ L → (insR x l L).Nodup ∧ ∀ j, j ∈ insR x l L → j = l ∨ j ∈ L
  | [], _, _ => by simp [insR]
  | j :: r, hn, hl => by
    rw [List.nodup_cons] at hn
    have hl' : l ∉ r := fun z => hl (List.mem_cons_of_mem _ z)
    have hlj : ¬ l = j := fun z => hl (by rw [z]; exact List.mem_cons_self)
    obtain ⟨i1, i2⟩ := insR_nd (x := x) hn.2 hl'
    rw [insR]
    split
    · refine ⟨List.nodup_cons.mpr ⟨fun z => ?_, i1⟩, fun k hk => ?_⟩
      · rcases i2 j z with w | w
        · exact hlj w.symm
        · exact hn.1 w
      · rcases List.mem_cons.mp hk with w | w
        · exact Or.inr (by rw [w]; exact List.mem_cons_self)
        · rcases i2 k w with u | u
          · exact Or.inl u
          · exact Or.inr (List.mem_cons_of_mem _ u)
    · refine ⟨List.nodup_cons.mpr ⟨hl, List.nodup_cons.mpr hn⟩, fun k hk => ?_⟩
      rcases List.mem_cons.mp hk with w | w
      · exact Or.inl w
      · exact Or.inr w
theorem ordR_nd {kd x : Nat → Int32} : ∀ {n : Nat}, (ordR kd x n).Nodup
  | 0 => List.nodup_nil
  | n + 1 => by
    rw [ordR]
    split
    · exact (insR_nd ordR_nd (fun z => by have := (ordR_mem.mp z).1; omega)).1
    · exact ordR_nd
theorem tanks_nd (h : HS) : (tanksM h).Nodup := by unfold tanksM; exact List.pairwise_reverse.mpr (ordR_nd.imp (fun q z => q z.symm))
theorem allL_same {f g : Nat → Int} : ∀ {L : List Nat}, (∀ j ∈ L, g j = f j) → allL g L = allL f L
  | [], _ => rfl
  | a :: r, h => by rw [allL, allL, h a List.mem_cons_self, allL_same (fun j hj => h j (List.mem_cons_of_mem _ hj))]
theorem allL_set {f g : Nat → Int} {p : Nat} (h : ∀ j, ¬ j = p → g j = f j) : ∀ {L : List Nat}, L.Nodup → p ∈ L → allL g L = allL f L + (g p - f p)
  | [], _, hp => by cases hp
  | a :: r, hn, hp => by
    rw [List.nodup_cons] at hn
    by_cases z : a = p
    · subst z
      rw [allL, allL, allL_same (f := f) (g := g) (fun j hj => h j (fun y => hn.1 (y ▸ hj)))]
      omega
    · rw [allL, allL, h a z, allL_set h hn.2 (by rcases List.mem_cons.mp hp with w | w; exact absurd w.symm z; exact w)]
      omega
theorem allL_z {f : Nat → Int} : ∀ {L : List Nat}, (∀ j ∈ L, f j = 0) → allL f L = 0
  | [], _ => rfl
  | a :: r, h => by rw [allL, h a List.mem_cons_self, allL_z (fun j hj => h j (List.mem_cons_of_mem _ hj))]; omega
end GRO
