/-! THE FRAMEWORK: a judgement over a fixed set of cells ('places'), whose numbers are a triple of functions -/
abbrev HS : Type := (Nat → Nat → Int32) × (Nat → Nat → Int64) × (Nat → Nat → Option Nat)
def gI (h : HS) (a k : Nat) : Int32 := h.1 a k
def gL (h : HS) (a k : Nat) : Int64 := h.2.1 a k
def gR (h : HS) (a k : Nat) : Option Nat := h.2.2 a k
def pI (h : HS) (a k : Nat) (v : Int32) : HS := (fun x y => if x = a ∧ y = k then v else h.1 x y, h.2.1, h.2.2)
def pL (h : HS) (a k : Nat) (v : Int64) : HS := (h.1, fun x y => if x = a ∧ y = k then v else h.2.1 x y, h.2.2)
def pR (h : HS) (a k : Nat) (v : Option Nat) : HS := (h.1, h.2.1, fun x y => if x = a ∧ y = k then v else h.2.2 x y)
def cpI (h : HS) (a b sp dp n : Nat) : HS := (fun x y => if x = b then va_cpy (h.1 a) (h.1 b) sp dp n y else h.1 x y, h.2.1, h.2.2)
/-- all words that a table keeps -/
def GW : List Cond := lw_tbl.filter goodWord
theorem gw_of {w : Cond} (i : Nat) (h : lw_tbl[i]? = some w) (hg : goodWord w = true) : w ∈ GW := List.mem_filter.mpr ⟨List.mem_of_getElem? h, hg⟩
theorem gw_in {w : Cond} (h : w ∈ GW) : w ∈ lw_tbl := (List.mem_filter.mp h).1
theorem gw_good : GoodIn GW GW := fun w h => ⟨h, good_of_word (List.mem_filter.mp h).2⟩
theorem gw_cons {y : MethodName} {cc : ByteArray} {nL : Nat} {ret : Option FieldType} (h : Cond.code y cc nL ret ∈ GW) : GoodIn GW (Cond.code y cc nL ret :: GW) := fun w hw => by
  rcases List.mem_cons.mp hw with rfl | hw
  · exact gw_good _ h
  · exact gw_good _ hw
/-- a place's kind: (0, number of the class, kinds of the fields: 0 int, 1 long, 2 reference, 10 + p: always place p), (1 int, 2 byte, 3 boolean, 4 long, length), (5, length, [first row]) -/
abbrev SK : Type := List (Nat × Nat × List Nat)
def tv (ad : Nat → Nat) (v : Value) : Value := match v with
  | .ref k => .ref (ad k)
  | v => v
theorem tv_cat (ad : Nat → Nat) (v : Value) : (tv ad v).category = v.category := by cases v <;> rfl
def fv (ad : Nat → Nat) (h : HS) (a k t : Nat) : Value := match t with
  | 0 => .int (h.1 a k)
  | 1 => .long (h.2.1 a k)
  | 2 => va_rf ((h.2.2 a k).map ad)
  | t => .ref (ad (t - 10))
def cel (ca ad : Nat → Nat) (h : HS) (a : Nat) (q : Nat × Nat × List Nat) : va_E := match q.1 with
  | 0 => .inr (q.2.1, q.2.2.mapIdx (fun k t => fv ad h a k t))
  | 4 => .inl (ca 4, q.2.1, .inr (.inl (h.2.1 a)))
  | 5 => .inl (ca 5, q.2.1, .inr (.inr (.inr (.inr (fun j => some (ad (q.2.2.headD 0 + j)))))))
  | t => .inl (ca t, q.2.1, .inl (h.1 a))
def wld (sk : SK) (ca ad : Nat → Nat) (h : HS) : va_W := sk.mapIdx (fun a q => (ad a, cel ca ad h a q))
theorem wld_get {sk : SK} {ca ad : Nat → Nat} {h : HS} {a : Nat} {q : Nat × Nat × List Nat} (hs : sk[a]? = some q) : (wld sk ca ad h)[a]? = some (ad a, cel ca ad h a q) := by
  unfold wld
  rw [List.getElem?_mapIdx, hs]
  rfl
theorem wld_len (sk : SK) (ca ad : Nat → Nat) (h : HS) : (wld sk ca ad h).length = sk.length := by simp [wld]
theorem wld_inv {sk : SK} {ca ad : Nat → Nat} {h : HS} {a : Nat} {x : Nat × va_E} (hx : (wld sk ca ad h)[a]? = some x) : ∃ q, sk[a]? = some q ∧ x = (ad a, cel ca ad h a q) := by
  unfold wld at hx
  rw [List.getElem?_mapIdx] at hx
  cases hq : sk[a]? with
  | none => rw [hq] at hx; cases hx
  | some q => rw [hq] at hx; exact ⟨q, rfl, (Option.some.inj hx).symm⟩
theorem cel_same {ca ad : Nat → Nat} {h h' : HS} {a : Nat} {q : Nat × Nat × List Nat} (h1 : h'.1 a = h.1 a) (h2 : h'.2.1 a = h.2.1 a) (h3 : h'.2.2 a = h.2.2 a) : cel ca ad h' a q = cel ca ad h a q := by
  unfold cel fv
  rw [h1, h2, h3]
theorem wld_set {sk : SK} {ca ad : Nat → Nat} {h h' : HS} {a : Nat} {q : Nat × Nat × List Nat} (hs : sk[a]? = some q) (ho : ∀ b, b ≠ a → h'.1 b = h.1 b ∧ h'.2.1 b = h.2.1 b ∧ h'.2.2 b = h.2.2 b) : (wld sk ca ad h).set a (ad a, cel ca ad h' a q) = wld sk ca ad h' := by
  apply List.ext_getElem?
  intro k
  have hl : a < (wld sk ca ad h).length := by rw [wld_len]; exact (List.getElem?_eq_some_iff.mp hs).1
  by_cases hk : k = a
  · subst hk
    rw [List.getElem?_set_self hl, wld_get hs]
  · rw [List.getElem?_set_ne (Ne.symm hk)]
    unfold wld
    rw [List.getElem?_mapIdx, List.getElem?_mapIdx]
    obtain ⟨h1, h2, h3⟩ := ho k hk
    cases sk[k]? with
    | none => rfl
    | some r => simp only [Option.map_some]; rw [cel_same h1 h2 h3]
theorem wld_D {sk : SK} {ca ad : Nat → Nat} {h : HS} (h' : HS) {A : Nat → Prop} (hD : va_D A (wld sk ca ad h)) : va_D A (wld sk ca ad h') := by
  refine ⟨fun i j x y hi hj hxy => ?_, fun k x hk => ?_⟩
  · obtain ⟨q, h1, rfl⟩ := wld_inv hi
    obtain ⟨r, h2, rfl⟩ := wld_inv hj
    exact hD.1 i j _ _ (wld_get h1) (wld_get h2) hxy
  · obtain ⟨q, h1, rfl⟩ := wld_inv hk
    exact hD.2 k (ad k, cel ca ad h k q) (wld_get h1)
def tysJ (ca : Nat → Nat) : List (ClassId × FieldType) := [(ca 1, .int), (ca 2, .byte), (ca 3, .boolean), (ca 4, .long), (ca 5, .array .int)]
/-- the links to the nest's private methods, which a table doesn't keep by itself -/
def NXs : List Cond := [.methodLinkNest RX4 48 yX11_clamp "HundredMenAft", .methodLinkNest RX2 42 yX11_isDigit "HundredMenAft", .methodLinkNest RX1 89 yX11_isDigit "HundredMenAft", .methodLinkNest RX5 66 yX11_between "HundredMenAft", .methodLinkNest RX3 44 yX11_clamp "HundredMenAft", .methodLinkNest RX3 48 yX11_between "HundredMenAft"]
def NX (U : State) : Prop := ∀ w ∈ NXs, va_Nw w U
theorem NX.warm {s U : State} (hW : s.WarmedH U.vm) (h : NX s) : NX U := by
  intro w hw
  have h1 := h w hw
  simp only [NXs, List.mem_cons, List.not_mem_nil, or_false] at hw
  rcases hw with rfl | rfl | rfl | rfl | rfl | rfl <;> exact va_Nw.warmM hW h1
theorem NX.same {s U : State} (hv : s.vm = U.vm) (h : NX s) : NX U := by
  intro w hw
  have h1 := h w hw
  simp only [NXs, List.mem_cons, List.not_mem_nil, or_false] at hw
  rcases hw with rfl | rfl | rfl | rfl | rfl | rfl <;> exact va_Nw.same rfl hv h1
def KX (D : va_G) (ca : Nat → Nat) (U : State) : Prop := va_K D vwCl (tysJ ca) U ∧ NX U
theorem KX.warm {D : va_G} {ca : Nat → Nat} {s U : State} (hW : s.WarmedH U.vm) (h : KX D ca s) : KX D ca U := ⟨va_K.moved hW.alike h.1, h.2.warm hW⟩
theorem KX.call {D : va_G} {ca : Nat → Nat} {U : State} {g : JFrame} {mk : MethodId} {a : Array Value} (h : KX D ca U) : KX D ca (U.calling g mk a) := ⟨va_K.moved (u := U) (U := U.calling g mk a) (Vm.Alike.refl U.vm) h.1, NX.same (s := U) (U := U.calling g mk a) (show U.vm = (U.calling g mk a).vm from rfl) h.2⟩
def rmD (d : Nat) : Room := { frames := d + 1, cells := 0, slots := 0, locals := 60 * (d + 1) }
def adA (sk : SK) (ad : Nat → Nat) (q : Nat) : Prop := ∃ k, k < sk.length ∧ q = ad k
/-- the locals that are known -/
def lvL (ad : Nat → Nat) : Nat → List (Option Value) → List (Nat × Value)
  | _, [] => []
  | i, none :: r => lvL ad (i + 1) r
  | i, some v :: r => (i, tv ad v) :: lvL ad (i + 1) r
theorem lvL_mem {ad : Nat → Nat} : ∀ {L : List (Option Value)} {i : Nat} {q : Nat × Value}, q ∈ lvL ad i L ↔ ∃ (k : Nat) (v : Value), L[k]? = some (some v) ∧ q = (i + k, tv ad v)
  | [], i, q => by simp [lvL]
  | none :: r, i, q => by
    rw [lvL, lvL_mem]
    constructor
    · rintro ⟨k, v, h1, h2⟩
      exact ⟨k + 1, v, by simpa using h1, by rw [h2]; congr 1; omega⟩
    · rintro ⟨k, v, h1, h2⟩
      cases k with
      | zero => simp at h1
      | succ k => exact ⟨k, v, by simpa using h1, by rw [h2]; congr 1; omega⟩
  | some w :: r, i, q => by
    rw [lvL, List.mem_cons, lvL_mem]
    constructor
    · rintro (h | ⟨k, v, h1, h2⟩)
      · exact ⟨0, w, rfl, h⟩
      · exact ⟨k + 1, v, by simpa using h1, by rw [h2]; congr 1; omega⟩
    · rintro ⟨k, v, h1, h2⟩
      cases k with
      | zero =>
        simp at h1
        subst h1
        exact Or.inl h2
      | succ k => exact Or.inr ⟨k, v, by simpa using h1, by rw [h2]; congr 1; omega⟩
theorem lvL_get {ad : Nat → Nat} {ls : Array Slot} {nL : Nat} {L : List (Option Value)} (hl : lv_has ls nL (lvL ad 0 L)) {i : Nat} {v : Value} (h : L[i]? = some (some v)) : ls[i]? = some (.val (tv ad v)) := by
  have := hl.2.2 (i, tv ad v) (lvL_mem.mpr ⟨i, v, h, by simp⟩)
  exact this
def is2 (o : Option (Option Value)) : Bool := match o with
  | some (some v) => v.category == 2
  | _ => false
def kl1 (L : List (Option Value)) (i : Nat) : List (Option Value) := match i with
  | 0 => L
  | k + 1 => cond (is2 L[k]?) (L.set k none) L
def st1 (L : List (Option Value)) (i : Nat) (v : Value) : List (Option Value) := (kl1 L i).set i (some v)
def st2 (L : List (Option Value)) (i : Nat) (v : Value) : List (Option Value) := ((kl1 L i).set (i + 1) none).set i (some v)
theorem kl1_get {L : List (Option Value)} {i k : Nat} {v : Value} (h : (kl1 L i)[k]? = some (some v)) : L[k]? = some (some v) ∧ ¬ (k + 1 = i ∧ v.category = 2) := by
  cases i with
  | zero => exact ⟨h, fun q => by omega⟩
  | succ j =>
    unfold kl1 at h
    cases hc : is2 L[j]? with
    | true =>
      simp only [hc, cond_true] at h
      by_cases hk : k = j
      · subst hk
        have hl : k < L.length := by
          cases hg : L[k]? with
          | none => rw [hg] at hc; cases hc
          | some x => exact (List.getElem?_eq_some_iff.mp hg).1
        rw [List.getElem?_set_self hl] at h
        cases h
      · rw [List.getElem?_set_ne (Ne.symm hk)] at h
        exact ⟨h, fun q => by omega⟩
    | false =>
      simp only [hc, cond_false] at h
      refine ⟨h, fun q => ?_⟩
      have hj : k = j := by omega
      subst hj
      rw [h] at hc
      simp [is2, q.2] at hc
theorem set_get {α : Type} {L : List α} {i k : Nat} {x y : α} (h : (L.set i x)[k]? = some y) : (k = i ∧ y = x) ∨ (k ≠ i ∧ L[k]? = some y) := by
  by_cases hk : k = i
  · subst hk
    by_cases hl : k < L.length
    · rw [List.getElem?_set_self hl] at h
      exact Or.inl ⟨rfl, (Option.some.inj h).symm⟩
    · have : (L.set k x)[k]? = none := List.getElem?_eq_none (by simp; omega)
      rw [this] at h
      cases h
  · rw [List.getElem?_set_ne (Ne.symm hk)] at h
    exact Or.inr ⟨hk, h⟩
theorem st1_has {ad : Nat → Nat} {ls : Array Slot} {nL i : Nat} {L : List (Option Value)} {v : Value} (h : lv_has ls nL ((i, tv ad v) :: (lvL ad 0 L).filter (fun q => !(q.1 == i) && !(q.1 + 1 == i && q.2.category == 2)))) : lv_has ls nL (lvL ad 0 (st1 L i v)) := by
  refine ⟨h.1, h.2.1, fun q hq => h.2.2 q ?_⟩
  obtain ⟨k, w, h1, rfl⟩ := lvL_mem.mp hq
  rcases set_get h1 with ⟨h2, h3⟩ | ⟨h2, h3⟩
  · cases h3
    subst h2
    simp
  · obtain ⟨h4, h5⟩ := kl1_get h3
    refine List.mem_cons_of_mem _ (List.mem_filter.mpr ⟨lvL_mem.mpr ⟨k, w, h4, rfl⟩, ?_⟩)
    simp only [tv_cat, Nat.zero_add]
    have e1 : (k == i) = false := by simpa using h2
    rw [e1]
    by_cases hc : k + 1 = i
    · have hw : ¬ w.category = 2 := fun q => h5 ⟨hc, q⟩
      simp [hw]
    · simp [hc]
theorem st2_has {ad : Nat → Nat} {ls : Array Slot} {nL i : Nat} {L : List (Option Value)} {v : Value} (h : lv_has ls nL ((i, tv ad v) :: (lvL ad 0 L).filter (fun q => !(q.1 == i) && (!(q.1 == i + 1) && !(q.1 + 1 == i && q.2.category == 2))))) : lv_has ls nL (lvL ad 0 (st2 L i v)) := by
  refine ⟨h.1, h.2.1, fun q hq => h.2.2 q ?_⟩
  obtain ⟨k, w, h1, rfl⟩ := lvL_mem.mp hq
  rcases set_get h1 with ⟨h2, h3⟩ | ⟨h2, h3⟩
  · cases h3
    subst h2
    simp
  · rcases set_get h3 with ⟨h6, h7⟩ | ⟨h6, h7⟩
    · cases h7
    · obtain ⟨h4, h5⟩ := kl1_get h7
      refine List.mem_cons_of_mem _ (List.mem_filter.mpr ⟨lvL_mem.mpr ⟨k, w, h4, rfl⟩, ?_⟩)
      simp only [tv_cat, Nat.zero_add]
      have e1 : (k == i) = false := by simpa using h2
      have e2 : (k == i + 1) = false := by simpa using h6
      rw [e1, e2]
      by_cases hc : k + 1 = i
      · have hw : ¬ w.category = 2 := fun q => h5 ⟨hc, q⟩
        simp [hw]
      · simp [hc]
/-- fewer known locals -/
def lsub : List (Option Value) → List (Option Value) → Prop
  | [], _ => True
  | none :: a, _ :: b => lsub a b
  | none :: a, [] => lsub a []
  | some v :: a, x :: b => x = some v ∧ lsub a b
  | some _ :: _, [] => False
theorem lsub_get : ∀ {a b : List (Option Value)}, lsub a b → ∀ {k : Nat} {v : Value}, a[k]? = some (some v) → b[k]? = some (some v)
  | [], _, _, k, v, h => by simp at h
  | none :: a, [], hs, k, v, h => by
    cases k with
    | zero => simp at h
    | succ k => simpa using lsub_get (a := a) (b := []) hs (k := k) (v := v) (by simpa using h)
  | none :: a, y :: b, hs, k, v, h => by
    cases k with
    | zero => simp at h
    | succ k => simpa using lsub_get (a := a) (b := b) hs (k := k) (v := v) (by simpa using h)
  | some w :: a, [], hs, k, v, h => hs.elim
  | some w :: a, x :: b, hs, k, v, h => by
    cases k with
    | zero =>
      simp at h
      subst h
      simp [hs.1]
    | succ k => simpa using lsub_get (a := a) (b := b) hs.2 (k := k) (v := v) (by simpa using h)
theorem lsub_has {ad : Nat → Nat} {ls : Array Slot} {nL : Nat} {a b : List (Option Value)} (hs : lsub a b) (h : lv_has ls nL (lvL ad 0 b)) : lv_has ls nL (lvL ad 0 a) := by
  refine ⟨h.1, h.2.1, fun q hq => h.2.2 q ?_⟩
  obtain ⟨k, w, h1, rfl⟩ := lvL_mem.mp hq
  exact lvL_mem.mpr ⟨k, w, lsub_get hs h1, rfl⟩
/-- where a method returns v with the stack st -/
def RetI (cc : ByteArray) (ret : Option FieldType) (pc : Nat) (st : List Value) (v : Option Value) : Prop :=
  (ret = some .int ∧ ∃ x : Int32, st = [.int x] ∧ v = some (.int x) ∧ decode cc pc = .ok (.ireturn, 1)) ∨
  (ret = some .boolean ∧ ∃ x : Int32, st = [.int x] ∧ v = some (.int (vp_nar .boolean x)) ∧ decode cc pc = .ok (.ireturn, 1)) ∨
  (ret = some .long ∧ ∃ x : Int64, st = [.long x] ∧ v = some (.long x) ∧ decode cc pc = .ok (.lreturn, 1)) ∨
  (ret = none ∧ st = [] ∧ v = none ∧ decode cc pc = .ok (.return_, 1)) ∨
  (ret = some (.object "") ∧ st = [] ∧ v = some (.ref pc))
/-- THE JUDGEMENT: from pc, with the known locals L, the stack st and the numbers h, the method comes to its return with v0 and h0 -/
def Jx (sk : SK) (own : String) (cc : ByteArray) (nL : Nat) (ret : Option FieldType) (d : Nat) (v0 : Option Value) (h0 : HS) (pc : Nat) (L : List (Option Value)) (st : List Value) (h : HS) : Prop :=
  ∀ (p : Program) (l : Launch) (e : Env) (s : State) (m : MethodId) (args : Array Value) (below : List Frame) (meth : Method) (c : Code) (D : va_G) (ca ad : Nat → Nat) (A : Nat → Prop) (H : Heap) (locs : List Loc) (ls : Array Slot) (Z : State → Prop) (R : Room), d + 1 ≤ R.frames → 60 * (d + 1) ≤ R.locals →
    CallFix p m c cc nL s args GW own → KX D ca s → va_P D vwCl (wld sk ca ad h) H → va_D A (wld sk ca ad h) → va_S A s.heap H locs → lv_has ls nL (lvL ad 0 L) →
    (∀ (H' : Heap) (locs' : List Loc) (pc' : Nat) (ls' : Array Slot) (st' : List Value), ls'.size = nL → va_P D vwCl (wld sk ca ad h0) H' → va_S A s.heap H' locs' → RetI cc ret pc' st' v0 → W p l e R s m args below meth c H' locs' 0 0 Z (F0 m pc' ls' st')) →
    W p l e R s m args below meth c H locs 0 0 Z (F0 m pc ls (st.map (tv ad)))
/-- A CONTRACT: from h the method returns v0, with h0 -/
def Cn (sk : SK) (y : MethodName) (cc : ByteArray) (nL : Nat) (ret : Option FieldType) (d : Nat) (as : List Value) (h : HS) (v0 : Option Value) (h0 : HS) : Prop :=
  ∀ (l : Launch) (D : va_G) (ca ad : Nat → Nat), Met l y (.code y cc nL ret :: GW) (rmD d) (va_Pc (as.map (tv ad)) (fun U => va_P D vwCl (wld sk ca ad h) U.heap ∧ KX D ca U ∧ va_D (fun _ => True) (wld sk ca ad h)))
    (fun _ st oc t => oc = .returned (v0.map (tv ad)) ∧ va_P D vwCl (wld sk ca ad h0) t.heap ∧ va_F (adA sk ad) st t) 0 0 (adA sk ad)
section JR
variable {sk : SK} {own : String} {cc : ByteArray} {nL : Nat} {ret : Option FieldType} {d : Nat} {v0 : Option Value} {h0 : HS} {pc : Nat} {L : List (Option Value)} {st : List Value} {h : HS}
theorem Jx.sub {L' : List (Option Value)} (hs : lsub L' L) (k : Jx sk own cc nL ret d v0 h0 pc L' st h) : Jx sk own cc nL ret d v0 h0 pc L st h :=
  fun p l e s m args below meth c D ca ad A H locs ls Z R hRf hRl C hK hP hD hS hl hR => k p l e s m args below meth c D ca ad A H locs ls Z R hRf hRl C hK hP hD hS (lsub_has hs hl) hR
theorem j_ireturn {x : Int32} (hd : decode cc pc = .ok (.ireturn, 1)) (hr : ret = some .int) (hv : v0 = some (.int x)) (hh : h0 = h) : Jx sk own cc nL ret d v0 h0 pc L [.int x] h :=
  fun p l e s m args below meth c D ca ad A H locs ls Z R hRf hRl C hK hP hD hS hl hR => hR H locs pc ls _ hl.1 (hh ▸ hP) hS (Or.inl ⟨hr, x, rfl, hv, hd⟩)
theorem j_zreturn {x : Int32} (hd : decode cc pc = .ok (.ireturn, 1)) (hr : ret = some .boolean) (hv : v0 = some (.int (vp_nar .boolean x))) (hh : h0 = h) : Jx sk own cc nL ret d v0 h0 pc L [.int x] h :=
  fun p l e s m args below meth c D ca ad A H locs ls Z R hRf hRl C hK hP hD hS hl hR => hR H locs pc ls _ hl.1 (hh ▸ hP) hS (Or.inr (Or.inl ⟨hr, x, rfl, hv, hd⟩))
theorem j_lreturn {x : Int64} (hd : decode cc pc = .ok (.lreturn, 1)) (hr : ret = some .long) (hv : v0 = some (.long x)) (hh : h0 = h) : Jx sk own cc nL ret d v0 h0 pc L [.long x] h :=
  fun p l e s m args below meth c D ca ad A H locs ls Z R hRf hRl C hK hP hD hS hl hR => hR H locs pc ls _ hl.1 (hh ▸ hP) hS (Or.inr (Or.inr (Or.inl ⟨hr, x, rfl, hv, hd⟩)))
theorem j_return (hd : decode cc pc = .ok (.return_, 1)) (hr : ret = none) (hv : v0 = none) (hh : h0 = h) : Jx sk own cc nL ret d v0 h0 pc L [] h :=
  fun p l e s m args below meth c D ca ad A H locs ls Z R hRf hRl C hK hP hD hS hl hR => hR H locs pc ls _ hl.1 (hh ▸ hP) hS (Or.inr (Or.inr (Or.inr (Or.inl ⟨hr, rfl, hv, hd⟩))))
theorem j_throw (hr : ret = some (.object "")) (hv : v0 = some (.ref pc)) (hh : h0 = h) : Jx sk own cc nL ret d v0 h0 pc L [] h :=
  fun p l e s m args below meth c D ca ad A H locs ls Z R hRf hRl C hK hP hD hS hl hR => hR H locs pc ls _ hl.1 (hh ▸ hP) hS (Or.inr (Or.inr (Or.inr (Or.inr ⟨hr, rfl, hv⟩))))
end JR
