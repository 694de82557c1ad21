/-! what the functions are written with -/
noncomputable def FU : Nat := Classical.choose (⟨40000, rfl⟩ : ∃ n : Nat, n = 40000)
theorem FU_eq : FU = 40000 := Classical.choose_spec (⟨40000, rfl⟩ : ∃ n : Nat, n = 40000)
def nm {α β : Type} (e : α) (f : α → β) : β := f e
theorem nm_x {α β : Type} {e : α} {f : α → β} {y : β} (H : nm e f = y) : ∃ v, v = e ∧ f v = y := ⟨e, rfl, H⟩
def ck {β : Type} (b : Bool) (o : Option β) : Option β := cond b o none
theorem ck_x {β : Type} {b : Bool} {o : Option β} {y : β} (H : ck b o = some y) : b = true ∧ o = some y := by
  cases b with
  | true => exact ⟨rfl, H⟩
  | false => cases H
def bd {α β : Type} (o : Option (α × HS)) (f : α → HS → Option β) : Option β := match o with
  | some (a, h) => f a h
  | none => none
theorem bd_x {α β : Type} {o : Option (α × HS)} {f : α → HS → Option β} {y : β} (H : bd o f = some y) : ∃ r h1, o = some (r, h1) ∧ f r h1 = some y := by
  cases o with
  | none => cases H
  | some q => exact ⟨q.1, q.2, rfl, H⟩
def bv {β : Type} (o : Option HS) (f : HS → Option β) : Option β := match o with
  | some h => f h
  | none => none
theorem bv_x {β : Type} {o : Option HS} {f : HS → Option β} {y : β} (H : bv o f = some y) : ∃ h1, o = some h1 ∧ f h1 = some y := by
  cases o with
  | none => cases H
  | some q => exact ⟨q, rfl, H⟩
def bR {β : Type} (o : Option Nat) (f : Nat → Option β) : Option β := match o with
  | some a => f a
  | none => none
theorem bR_x {β : Type} {o : Option Nat} {f : Nat → Option β} {y : β} (H : bR o f = some y) : ∃ a, o = some a ∧ f a = some y := by
  cases o with
  | none => cases H
  | some q => exact ⟨q, rfl, H⟩
def bA {β : Type} (sk : SK) (t a : Nat) (f : Nat → Option β) : Option β := match ak sk a with
  | some (u, n) => ck (u == t) (f n)
  | none => none
theorem bA_x {β : Type} {sk : SK} {t a : Nat} {f : Nat → Option β} {y : β} (H : bA sk t a f = some y) : ∃ n, ak sk a = some (t, n) ∧ f n = some y := by
  unfold bA at H
  split at H
  · rename_i u n hq
    obtain ⟨h1, h2⟩ := ck_x H
    have h3 : u = t := by simpa using h1
    subst h3
    exact ⟨n, hq, h2⟩
  · cases H
def nz (y : Int32) : Bool := decide (¬ y = 0)
theorem nz_x {y : Int32} (h : nz y = true) : ¬ y = 0 := of_decide_eq_true h
def nzL (y : Int64) : Bool := decide (¬ y = 0)
theorem nzL_x {y : Int64} (h : nzL y = true) : ¬ y = 0 := of_decide_eq_true h
def cpok (sp dp n : Int32) (n0 n1 : Nat) : Bool := decide (¬ sp < 0 ∧ ¬ dp < 0 ∧ ¬ n < 0 ∧ sp.toNatClampNeg + n.toNatClampNeg ≤ n0 ∧ dp.toNatClampNeg + n.toNatClampNeg ≤ n1)
theorem ri_1 {x r : Int32} {h h0 : HS} (H : some (x, h) = some (r, h0)) : (some (Value.int r) : Option Value) = some (.int x) := by cases H; rfl
theorem rl_1 {x r : Int64} {h h0 : HS} (H : some (x, h) = some (r, h0)) : (some (Value.long r) : Option Value) = some (.long x) := by cases H; rfl
theorem ri_2 {α : Type} {x r : α} {h h0 : HS} (H : some (x, h) = some (r, h0)) : h0 = h := by cases H; rfl
theorem rv_2 {h h0 : HS} (H : some h = some h0) : h0 = h := by cases H; rfl
theorem nz0 : vp_nar .boolean 0 = 0 := by decide +kernel
theorem nz1 : vp_nar .boolean 1 = 1 := by decide +kernel
theorem rz0 {r : Int32} {h h0 : HS} (H : some ((0 : Int32), h) = some (r, h0)) : (some (Value.int r) : Option Value) = some (.int (vp_nar .boolean 0)) := by cases H; rw [nz0]
theorem rz1 {r : Int32} {h h0 : HS} (H : some ((1 : Int32), h) = some (r, h0)) : (some (Value.int r) : Option Value) = some (.int (vp_nar .boolean 1)) := by cases H; rw [nz1]
theorem tb_out {x : Int32} {lo hi : Int} (H : ∀ k : Int, lo ≤ k → k ≤ hi → ¬ x = Int32.ofInt k) : x.toInt < lo ∨ hi < x.toInt := by
  by_cases h1 : x.toInt < lo
  · exact Or.inl h1
  · by_cases h2 : hi < x.toInt
    · exact Or.inr h2
    · exact absurd (Int32.ofInt_toInt x).symm (H x.toInt (by omega) (by omega))
theorem fk_at {sk : SK} {a k ci t : Nat} {fts : List Nat} (h : sk[a]? = some (0, ci, fts)) (hf : fts[k]? = some t) : fk sk a k = some (ci, t) := by
  unfold fk
  rw [h]
  show (fts[k]?).map (fun t => (ci, t)) = _
  rw [hf]
  rfl
theorem inb_lt {i : Int32} {n : Nat} (h : inb i n = true) : i.toNatClampNeg < n := Nat.not_le.mp fun q => inb_in h (Or.inr q)
section JT
variable {sk : SK} {own : String} {cc : ByteArray} {nL : Nat} {ret : Option FieldType} {d : Nat} {v0 : Option Value} {h0 : HS} {pc : Nat} {L : List (Option Value)} {st : List Value} {h : HS}
theorem j_topi {x v : Int32} (e : v = x) (k : Jx sk own cc nL ret d v0 h0 pc L (.int v :: st) h) : Jx sk own cc nL ret d v0 h0 pc L (.int x :: st) h := e ▸ k
theorem j_topl {x v : Int64} (e : v = x) (k : Jx sk own cc nL ret d v0 h0 pc L (.long v :: st) h) : Jx sk own cc nL ret d v0 h0 pc L (.long x :: st) h := e ▸ k
theorem j_copyB {a b n0 n1 index : Nat} {sp dp n : Int32} (hd : decode cc pc = .ok (.invokestatic index, 3)) (hw : Cond.methodLink own index arraycopyName ∈ GW ∧ Cond.native arraycopyName ∈ GW ∧ Cond.static arraycopyName ∈ GW ∧ Cond.initialized "java/lang/System" ∈ GW) (hs0 : ak sk a = some (1, n0)) (hs1 : ak sk b = some (1, n1)) (hb : cpok sp dp n n0 n1 = true)
    (hst : (st.map fun v => v.category).sum ≤ 8) (h' : HS) (hh : h' = cpI h a b sp.toNatClampNeg dp.toNatClampNeg n.toNatClampNeg) (k : Jx sk own cc nL ret d v0 h0 (pc + 3) L st h') : Jx sk own cc nL ret d v0 h0 pc L (.int n :: .int dp :: .ref b :: .int sp :: .ref a :: st) h := by
  unfold cpok at hb
  obtain ⟨h1, h2, h3, h4, h5⟩ := of_decide_eq_true hb
  exact j_copyI hd hw hs0 hs1 h1 h2 h3 h4 h5 hst h' hh k
/-- Math.floorDiv of longs -/
def lfd (x y : Int64) : Int64 := if 0 ≤ lg_cmp (x ^^^ y) 0 then x / y else if lg_cmp (x / y * y) x = 0 then x / y else x / y - 1
theorem j_fdiv {index : Nat} {x y : Int64} (hd : decode cc pc = .ok (.invokestatic index, 3)) (hw : MW own index yJ9_floorDiv_f86c9 cJ9_floorDiv_f86c9 6 (some .long)) (hne : ¬ y = 0) (hst : (st.map fun v => v.category).sum ≤ 8) (k : Jx sk own cc nL ret d v0 h0 (pc + 3) L (.long (lfd x y) :: st) h) : Jx sk own cc nL ret d v0 h0 pc L (.long y :: .long x :: st) h := by
  sorry
end JT
def skC : SK := [(0, 11, [11, 12, 13, 14, 26, 0, 15, 16, 17, 18, 19, 20]), (0, 0, [12, 13, 0, 0, 0, 27, 0, 0, 0, 28, 32, 33, 34, 35, 21, 22]), (0, 4, [36, 37, 38, 39, 40, 41, 42, 0, 0]), (0, 10, [43, 44, 0, 0, 0]), (0, 6, [45, 0]), (0, 1, [11, 12, 24, 46, 0, 0, 47, 48, 49, 0, 0, 0, 0, 0, 0]), (0, 5, [11, 12, 23, 0, 50, 51, 52, 53, 0, 0, 0, 0, 54, 0]), (0, 3, [11, 0, 0, 0, 0]), (0, 9, [11, 12, 25, 0, 55, 62, 0, 69, 70, 71, 72]), (0, 8, [11, 12, 73, 74, 75, 0, 0, 0]), (0, 7, [1, 1]), (0, 7, [1, 1]), (0, 7, [1, 1]), (0, 7, [1, 1]), (0, 2, [2, 0, 0, 0]), (0, 2, [2, 0, 0, 0]), (1, 80, []), (1, 3, []), (5, 3, [19]), (1, 15, []), (1, 15, []), (1, 15, []), (1, 3, []), (1, 3, []), (1, 3, []), (1, 3, []), (1, 15, []), (1, 15, []), (1, 15, []), (1, 15, []), (1, 15, []), (1, 15, []), (1, 15, []), (1, 6, []), (1, 6, []), (1, 20, []), (1, 60, []), (1, 15, []), (1, 15, []), (1, 15, []), (1, 6, []), (1, 6, []), (1, 6, []), (3, 6, []), (1, 4, []), (5, 6, [46]), (1, 3, []), (1, 3, []), (1, 3, []), (1, 3, []), (1, 3, []), (1, 3, []), (5, 6, [53]), (1, 3, []), (1, 3, []), (1, 3, []), (1, 3, []), (1, 3, []), (1, 3, []), (1, 12, []), (1, 12, []), (1, 12, []), (1, 12, []), (1, 15, []), (1, 15, []), (1, 15, []), (1, 0, []), (1, 0, [])]
def skM : SK := [(0, 12, [0, 11, 12, 13, 14, 15, 0, 0, 0, 0, 0, 0, 16, 17, 18, 0, 0, 0, 19, 0, 20, 0, 0, 21, 0, 22, 2, 0, 0, 0, 0, 0, 0, 23, 24, 25, 26, 0, 0, 0, 27, 28, 29, 30, 31, 0, 0, 0, 0, 0, 0, 32, 33, 0, 34, 35, 36, 37, 38, 39, 40, 41, 42, 43, 44, 45, 46, 47, 48]), (1, 15, []), (1, 15, []), (1, 15, []), (1, 15, []), (1, 15, []), (1, 6, []), (1, 6, []), (1, 3, []), (2, 80, []), (1, 24, []), (1, 60, []), (2, 60, []), (1, 16, []), (1, 16, []), (1, 16, []), (1, 16, []), (1, 6, []), (1, 6, []), (1, 6, []), (3, 6, []), (1, 15, []), (1, 6, []), (1, 384, []), (1, 12, []), (1, 12, []), (1, 12, []), (1, 12, []), (1, 6, []), (1, 6, []), (1, 15, []), (1, 15, []), (1, 15, []), (3, 3, []), (1, 3, []), (1, 45, []), (1, 3, []), (1, 3, []), (1, 3, [])]
theorem row_18 {i : Int32} (h : inb i 3 = true) : ak skC (19 + i.toNatClampNeg) = some (1, 15) := (by decide : ∀ j, j < 3 → ak skC (19 + j) = some (1, 15)) _ (inb_lt h)
theorem row_45 {i : Int32} (h : inb i 6 = true) : ak skC (46 + i.toNatClampNeg) = some (1, 3) := (by decide : ∀ j, j < 6 → ak skC (46 + j) = some (1, 3)) _ (inb_lt h)
theorem row_52 {i : Int32} (h : inb i 6 = true) : ak skC (53 + i.toNatClampNeg) = some (1, 3) := (by decide : ∀ j, j < 6 → ak skC (53 + j) = some (1, 3)) _ (inb_lt h)
