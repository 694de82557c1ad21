section TLL
variable {m X Y : Nat → Int32} {u N t : Nat}
/-- a telling: its terms, and where it ends -/
def pTl (ch : Nat → Int32) (N : Nat) : Nat → Nat → Sum Nat (List PTm × Nat)
  | 0, _ => .inl 0
  | n + 1, a => match pTm ch N a with
    | .inl f => .inl f
    | .inr q => if ch q.2 = 59 then (match pTl ch N n (q.2 + 1) with
      | .inl f => .inl f
      | .inr w => .inr (q.1 :: w.1, w.2)) else .inr ([q.1], q.2)
theorem c_tl (hN : N ≤ 15) (ht : t < 6) (hu : u ≤ 60) (hb : ∀ k, (m k).toInt8.toInt32 = m k) (p1 : Nat) (v2 : Int32) : ∀ (n a j w : Nat) (h : HS), 61 ≤ n + a → a ≤ 60 → 5 * j ≤ a → n < w → KT h m u N t X Y → gI h 15 2 = nI a → (∃ f hF, pTl (chT m u) N n a = .inl f ∧ f ≤ 60 ∧ bv (fX9_readTerm h) (fun h16 => fX9_read_62 p1 w v2 (nI j) h16) = fX9_read_90 p1 v2 hF ∧ gI hF 15 3 = nI f ∧ FT t h hF) ∨ (∃ L e h', pTl (chT m u) N n a = .inr (L, e) ∧ a + 4 ≤ e ∧ e ≤ u ∧ 5 * L.length ≤ e + 1 - a ∧ (∀ tm, tm ∈ L → tmOK N tm) ∧ bv (fX9_readTerm h) (fun h16 => fX9_read_62 p1 w v2 (nI j) h16) = fX9_read_90 p1 v2 h' ∧ gI h' 15 2 = nI e ∧ KT h' m u N t X Y ∧ FT t h h' ∧ ∀ w, w < 3 → gI h' (46 + t) w = L.foldl (fun s tm => s + moT X Y w tm) (gI h (46 + t) w) ∧ gI h' (53 + t) w = L.foldl (fun s tm => s + hoT X Y w tm) (gI h (53 + t) w)) := by
  intro n
  have k30 : (30 : Int32) = nI 30 := by decide
  induction n with
  | zero => intro a j w h h1 h2; omega
  | succ n ih =>
    intro a j w h h1 h2 h3 hw K e2
    obtain ⟨w', rfl⟩ := fuel1 hw
    rw [pTl]
    rcases c_tm hN ht hu hb K e2 h2 with ⟨f, hF, q1, q2, q3, q4, q5⟩ | ⟨tm, e, h', q1, q2, q3, q4, q5, q6, q7, q8, q9⟩
    · have B : bdC 15 hF := by unfold bdC; rw [q4]; exact fun z => m1_ne (by omega) z.symm
      rw [q1, q3, bv_s, fX9_read_62, d_take B (by decide), bd_s, if_pos rfl, ite_self]
      exact Or.inl ⟨f, hF, rfl, q2, rfl, q4, q5⟩
    · have T := KT_T q7 hu hb
      have tk := c_take T (a := e) (by omega) (p := 59) (by decide)
      have sp : ∀ v : Int32, gI h' 15 2 = v → pI h' 15 2 v = h' := fun v e => by rw [← e, pI_self]
      rw [sp _ q6] at tk
      rw [q1, q5, bv_s, fX9_read_62, k30, if_neg (nI_ge (by omega) (by omega)), tk]
      simp only
      by_cases c : chT m u e = 59
      · have l2 := ZZ_l (chT_Z hu) c (by decide)
        rw [if_pos c, if_pos c, bd_s, if_neg (by decide)]
        simp only [nm_e1, nI_1]
        rcases ih (e + 1) (j + 1) w' (pI h' 15 2 (nI (e + 1))) (by omega) (by omega) (by omega) (by omega) (KT_2 q7) g22 with ⟨f, hF, y1, y2, y3, y4, y5⟩ | ⟨L, e', h9, y1, y2, y3, y4, y5, y6, y7, y8, y9, y10⟩
        · rw [y1]
          exact Or.inl ⟨f, hF, rfl, y2, y3, y4, FT_t q8 (FT_t FT_p y5)⟩
        · rw [y1]
          refine Or.inr ⟨tm :: L, e', h9, rfl, by omega, y3, ?_, fun x hx => ?_, y6, y7, y8, FT_t q8 (FT_t FT_p y9), fun w hw => ?_⟩
          · rw [List.length_cons]
            omega
          · rcases List.mem_cons.mp hx with rfl | hx
            · exact q4
            · exact y5 x hx
          · obtain ⟨z1, z2⟩ := y10 w hw
            obtain ⟨x1, x2⟩ := q9 w hw
            rw [gI_pI, if_neg (by omega)] at z1 z2
            rw [z1, z2, List.foldl_cons, List.foldl_cons, x1, x2]
            exact ⟨rfl, rfl⟩
      · rw [if_neg c, if_neg c, bd_s, if_pos rfl]
        refine Or.inr ⟨[tm], e, pI h' 15 2 (nI e), rfl, q2, q3, ?_, fun x hx => ?_, by rw [sp _ q6], g22, KT_2 q7, FT_t q8 FT_p, fun w hw => ?_⟩
        · rw [List.length_singleton]
          omega
        · rcases List.mem_cons.mp hx with rfl | hx
          · exact q4
          · cases hx
        · obtain ⟨x1, x2⟩ := q9 w hw
          rw [gI_pI, if_neg (by omega), gI_pI, if_neg (by omega), x1, x2]
          exact ⟨rfl, rfl⟩
/-- where the model stands as it reads a telling -/
def KM (h : HS) (m : Nat → Int32) (s N t : Nat) : Prop := gI h 0 27 = nI s ∧ gI h 0 28 = nI 30 ∧ gI h 0 30 = -1 ∧ gR h 0 26 = some 9 ∧ gI h 9 = m ∧ gI h 0 0 = nI N ∧ gI h 0 50 = nI t
theorem KM_T {h : HS} {s : Nat} (K : KM h m s N t) (hs : s ≤ 80) : TM h (chT m (min s 30)) := by
  obtain ⟨k1, k2, k3, k4, k5, -⟩ := K
  rw [← k5]
  exact TM_of (q := 9) (n := 80) (t := s) (u := 30) (s := min s 30) (by decide) (by decide) rfl (by omega) (by omega) (by omega) (by omega) k1 k2 k3 k4
theorem KM_4 {h : HS} {s k : Nat} {tm : PTm} (K : KM h m s N t) : KM (tm4 h k tm) m s N t := by
  obtain ⟨k1, k2, k3, k4, k5, k6, k7⟩ := K
  exact ⟨by rw [tm4_g 0 27 (by omega), k1], by rw [tm4_g 0 28 (by omega), k2], by rw [tm4_g 0 30 (by omega), k3], k4, by rw [← k5]; exact funext fun j => tm4_g 9 j (by omega), by rw [tm4_g 0 0 (by omega), k6], by rw [tm4_g 0 50 (by omega), k7]⟩
def TMat (h : HS) (k : Nat) (tm : PTm) : Prop := gI h 23 k = tm.1 ∧ gI h 23 (k + 1) = nI tm.2.1 ∧ gI h 23 (k + 2) = (if tm.1 = 118 then nI tm.2.2.1 else -1) ∧ gI h 23 (k + 3) = tm.2.2.2
/-- all but where the model reads and what it keeps of this telling -/
def FQ (t : Nat) (h h' : HS) : Prop := ∀ b j, ¬ (b = 0 ∧ (j = 29 ∨ j = 30)) → ¬ (b = 23 ∧ 64 * t ≤ j) → gI h' b j = gI h b j
theorem FQ_t {h h1 h2 : HS} (a : FQ t h h1) (b : FQ t h1 h2) : FQ t h h2 := fun x j z1 z2 => (b x j z1 z2).trans (a x j z1 z2)
theorem FQ_4 {h : HS} {c : Nat} {tm : PTm} : FQ t h (tm4 h (4 * (16 * t + c)) tm) := fun b j _ z2 => tm4_g b j (by omega)
theorem FQ_m {h h' : HS} (a : FMm h h') : FQ t h h' := fun b j z _ => a b j z
theorem m_tl {s : Nat} (hN : N ≤ 15) (ht : t < 6) (hs : s ≤ 80) (G : ∀ a tm e, a ≤ 60 → pTm (chT m (min s 30)) N a = .inr (tm, e) → a + 4 ≤ e) : ∀ (n a c w : Nat) (h : HS), KM h m s N t → 61 ≤ n + a → a ≤ 60 → 5 * c ≤ a → n + 1 < w → (∃ f hF, pTl (chT m (min s 30)) N n a = .inl f ∧ f ≤ 60 ∧ fX12_telling_61 w (nI c) 1 (pI h 0 29 (nI a)) = some (-1 - nI f, hF) ∧ FQ t h hF) ∨ (∃ L e k h', pTl (chT m (min s 30)) N n a = .inr (L, e) ∧ e ≤ 60 ∧ fX12_telling_61 w (nI c) 1 (pI h 0 29 (nI a)) = fX12_telling_61 (k + 1) (nI (c + L.length)) 0 (pI h' 0 29 (nI e)) ∧ KM h' m s N t ∧ FQ t h h' ∧ (∀ j, j < 4 * (16 * t + c) → gI h' 23 j = gI h 23 j) ∧ ∀ i tm, L[i]? = some tm → TMat h' (4 * (16 * t + (c + i))) tm) := by
  have Z : ZZ (chT m (min s 30)) := chT_Z (by omega)
  intro n
  induction n with
  | zero => intro a c w h K h1 h2; omega
  | succ n ih =>
    intro a c w h K h1 h2 h3 hw
    obtain ⟨w', rfl⟩ := fuel1 hw
    have T := KM_T K hs
    rw [pTl]
    rcases m_tm (n := w') (c := c) T Z hN K.2.2.2.2.2.1 K.2.2.2.2.2.2 ht (by omega) h2 with ⟨f, hF, q1, q2, q3, q4⟩ | ⟨tm, e, q1, q2, q3⟩
    · rw [q1, q3]
      exact Or.inl ⟨f, hF, rfl, q2, rfl, FQ_m q4⟩
    · have g4 := G a tm e h2 q1
      obtain ⟨h4, eh4⟩ : ∃ y, y = tm4 h (4 * (16 * t + c)) tm := ⟨_, rfl⟩
      have K4 : KM h4 m s N t := by rw [eh4]; exact KM_4 K
      have F4 : FQ t h h4 := by rw [eh4]; exact FQ_4
      have A4 : TMat h4 (4 * (16 * t + c)) tm := by rw [eh4]; exact tm4_v
      have L4 : ∀ j, j < 4 * (16 * t + c) → gI h4 23 j = gI h 23 j := fun j hj => by rw [eh4, tm4_g 23 j (by omega)]
      rw [q1, q3, ← eh4, m_pass (KM_T K4 hs) (by omega) (by decide)]
      simp only
      by_cases c1 : chT m (min s 30) e = 59
      · have l2 := ZZ_l Z c1 (by decide)
        rw [if_pos c1, if_pos c1, bd_s]
        rcases ih (e + 1) (c + 1) w' h4 K4 (by omega) (by omega) (by omega) (by omega) with ⟨f, hF, y1, y2, y3, y4⟩ | ⟨L, e', k, h', y1, y2, y3, y4, y5, y6, y7⟩
        · rw [y1, y3]
          exact Or.inl ⟨f, hF, rfl, y2, rfl, FQ_t F4 y4⟩
        · rw [y1, y3]
          refine Or.inr ⟨tm :: L, e', k, h', rfl, y2, ?_, y4, FQ_t F4 y5, fun j hj => ?_, fun i x hx => ?_⟩
          · rw [List.length_cons, show c + 1 + L.length = c + (L.length + 1) by omega]
          · rw [y6 j (by omega), L4 j hj]
          · cases i with
            | zero =>
              rw [List.getElem?_cons_zero] at hx
              have := Option.some.inj hx
              subst this
              obtain ⟨a1, a2, a3, a4⟩ := A4
              rw [Nat.add_zero]
              exact ⟨by rw [y6 _ (by omega), a1], by rw [y6 _ (by omega), a2], by rw [y6 _ (by omega), a3], by rw [y6 _ (by omega), a4]⟩
            | succ i =>
              rw [List.getElem?_cons_succ] at hx
              have := y7 i x hx
              rw [show c + (i + 1) = c + 1 + i by omega]
              exact this
      · obtain ⟨w2, rfl⟩ := fuel1 (show 0 < w' by omega)
        rw [if_neg c1, if_neg c1, bd_s]
        refine Or.inr ⟨[tm], e, w2, h4, rfl, q2, rfl, K4, F4, L4, fun i x hx => ?_⟩
        cases i with
        | zero =>
          rw [List.getElem?_cons_zero] at hx
          have := Option.some.inj hx
          subst this
          rw [Nat.add_zero]
          exact A4
        | succ i => rw [List.getElem?_cons_succ] at hx; cases hx
/-- the rows of a telling are 0 -/
theorem z_step {h : HS} {w n p1 : Nat} {v2 : Int32} (ht : t < 6) (e8 : gI h 8 3 = nI t) (hw : w < 3) : fX9_read_2 p1 (n + 1) v2 (nI w) h = fX9_read_2 p1 n v2 (nI (w + 1)) (pI (pI h (46 + t) w 0) (53 + t) w 0) := by
  have g8 : gI (pI h (46 + t) w 0) 8 3 = nI t := by rw [gI_pI, if_neg (by omega), e8]
  rw [fX9_read_2, show (2 : Int32) = nI 2 by decide, if_neg (nI_nlt (by omega) (by omega)), e8, inb_n (show t < 6 by omega) (by omega), ck_t, inb_n (show w < 3 by omega) (by omega), ck_t, nI_clamp (show t < 2 ^ 31 by omega), nI_clamp (show w < 2 ^ 31 by omega), nm_e1, g8, inb_n (show t < 6 by omega) (by omega), ck_t, ck_t, nI_clamp (show t < 2 ^ 31 by omega), nm_e1, nm_e1, nI_1]
theorem c_zero {h : HS} {n p1 : Nat} {v2 : Int32} (ht : t < 6) (e8 : gI h 8 3 = nI t) : ∃ h', fX9_read_2 p1 (n + 4) v2 0 h = bv (fX2_begin 15 p1 (0 : Int32) ((imin v2 (30 : Int32))) h') (fun h2 => if v2 ≤ 0 then (fX9_read_62 p1 FU v2 (0 : Int32) h2) else (bv (fX9_readTerm h2) (fun h4 => fX9_read_62 p1 FU v2 (0 : Int32) h4))) ∧ exT t h h' ∧ ∀ w, w < 3 → gI h' (46 + t) w = 0 ∧ gI h' (53 + t) w = 0 := by
  obtain ⟨h1, e1⟩ : ∃ y, y = pI (pI h (46 + t) 0 0) (53 + t) 0 0 := ⟨_, rfl⟩
  obtain ⟨h2, e2⟩ : ∃ y, y = pI (pI h1 (46 + t) 1 0) (53 + t) 1 0 := ⟨_, rfl⟩
  obtain ⟨h3, e3⟩ : ∃ y, y = pI (pI h2 (46 + t) 2 0) (53 + t) 2 0 := ⟨_, rfl⟩
  have G : ∀ (y z : HS) (w : Nat), z = pI (pI y (46 + t) w 0) (53 + t) w 0 → exT t y z ∧ (gI z (46 + t) w = 0 ∧ gI z (53 + t) w = 0) ∧ ∀ b j, ¬ j = w → gI z b j = gI y b j := fun y z w e => by
    rw [e]
    refine ⟨⟨rfl, fun b j z1 z2 => by rw [gI_pI, if_neg (fun q => z2 q.1), gI_pI, if_neg (fun q => z1 q.1)]⟩, ⟨by rw [gI_pI, if_neg (by omega), gI_pI, if_pos ⟨rfl, rfl⟩], by rw [gI_pI, if_pos ⟨rfl, rfl⟩]⟩, fun b j z => by rw [gI_pI, if_neg (fun q => z q.2), gI_pI, if_neg (fun q => z q.2)]⟩
  obtain ⟨x1, v1, n1⟩ := G h h1 0 e1
  obtain ⟨x2, v2', n2⟩ := G h1 h2 1 e2
  obtain ⟨x3, v3, n3⟩ := G h2 h3 2 e3
  have s1 := z_step (n := n + 3) (p1 := p1) (v2 := v2) (w := 0) ht e8 (by omega)
  have s2 := z_step (h := h1) (n := n + 2) (p1 := p1) (v2 := v2) (w := 1) ht (by rw [x1.2 8 3 (by omega) (by omega), e8]) (by omega)
  have s3 := z_step (h := h2) (n := n + 1) (p1 := p1) (v2 := v2) (w := 2) ht (by rw [x2.2 8 3 (by omega) (by omega), x1.2 8 3 (by omega) (by omega), e8]) (by omega)
  rw [← e1, nI_0] at s1
  rw [← e2] at s2
  rw [← e3] at s3
  refine ⟨h3, ?_, exT_t (exT_t x1 x2) x3, fun w hw => ?_⟩
  · rw [s1, s2, s3, fX9_read_2, if_pos (show (2 : Int32) < nI (2 + 1) by decide)]
  · have c : w = 0 ∨ w = 1 ∨ w = 2 := by omega
    rcases c with rfl | rfl | rfl
    · rw [n3 _ 0 (by omega), n2 _ 0 (by omega), n3 _ 0 (by omega), n2 _ 0 (by omega)]
      exact v1
    · rw [n3 _ 1 (by omega), n3 _ 1 (by omega)]
      exact v2'
    · exact v3
end TLL
