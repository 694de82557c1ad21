/-! constructors: a judgement over a set of cells that grows -/
abbrev AC : Type := Nat × Nat × List Value × (Nat → Int32)
def bsR (l : List Value) : Nat := match l with
  | .ref k :: _ => k
  | _ => 0
def reA (ca ad : Nat → Nat) (q : AC) : va_E := match q.1 with
  | 0 => .inr (q.2.1, q.2.2.1.map (tv ad))
  | 5 => .inl (ca 5, q.2.1, .inr (.inr (.inr (.inr (fun j => if j < q.2.1 then some (ad (bsR q.2.2.1 + j)) else none)))))
  | t => .inl (ca t, q.2.1, .inl q.2.2.2)
def wlg (ca ad : Nat → Nat) (cs : List AC) : va_W := cs.mapIdx (fun a q => (ad a, reA ca ad q))
def okV (n : Nat) (v : Value) : Bool := match v with
  | .ref k => decide (k < n)
  | _ => true
def okA (n : Nat) (q : AC) : Bool := match q.1 with
  | 0 => q.2.2.1.all (okV n)
  | 5 => decide (bsR q.2.2.1 + q.2.1 ≤ n)
  | _ => true
def okO (n : Nat) (o : Option Value) : Bool := match o with
  | some v => okV n v
  | none => true
def gok (n : Nat) (cs : List AC) (L : List (Option Value)) (st : List Value) : Bool := decide (n = cs.length) && (cs.all (okA n) && (L.all (okO n) && st.all (okV n)))
theorem gok_x {n : Nat} {cs : List AC} {L : List (Option Value)} {st : List Value} (h : gok n cs L st = true) : n = cs.length ∧ cs.all (okA n) = true ∧ L.all (okO n) = true ∧ st.all (okV n) = true := by
  unfold gok at h
  rw [Bool.and_eq_true, Bool.and_eq_true, Bool.and_eq_true] at h
  exact ⟨of_decide_eq_true h.1, h.2.1, h.2.2.1, h.2.2.2⟩
section OK
variable {n : Nat} {ca ad ad' : Nat → Nat}
theorem tv_ok {v : Value} (h : okV n v = true) (ha : ∀ k, k < n → ad' k = ad k) : tv ad' v = tv ad v := by
  cases v with
  | ref k =>
    have h1 : k < n := of_decide_eq_true h
    show Value.ref (ad' k) = Value.ref (ad k)
    rw [ha k h1]
  | _ => rfl
theorem reA_ok {q : AC} (h : okA n q = true) (ha : ∀ k, k < n → ad' k = ad k) : reA ca ad' q = reA ca ad q := by
  obtain ⟨t, m, fs, f⟩ := q
  match t with
  | 0 =>
    show (Sum.inr (m, fs.map (tv ad')) : va_E) = Sum.inr (m, fs.map (tv ad))
    have e : fs.map (tv ad') = fs.map (tv ad) := List.map_congr_left (fun v hv => tv_ok (List.all_eq_true.mp h v hv) ha)
    rw [e]
  | 5 =>
    have h5 : bsR fs + m ≤ n := of_decide_eq_true h
    show (Sum.inl (ca 5, m, .inr (.inr (.inr (.inr (fun j => if j < m then some (ad' (bsR fs + j)) else none))))) : va_E) = Sum.inl (ca 5, m, .inr (.inr (.inr (.inr (fun j => if j < m then some (ad (bsR fs + j)) else none)))))
    have e : (fun j => if j < m then some (ad' (bsR fs + j)) else none) = (fun j => if j < m then some (ad (bsR fs + j)) else none) := by
      funext j
      by_cases hj : j < m
      · rw [if_pos hj, if_pos hj, ha (bsR fs + j) (by omega)]
      · rw [if_neg hj, if_neg hj]
    rw [e]
  | 1 => rfl
  | 2 => rfl
  | 3 => rfl
  | 4 => rfl
  | t + 6 => rfl
theorem wlg_ok {cs : List AC} (hn : n = cs.length) (h : cs.all (okA n) = true) (ha : ∀ k, k < n → ad' k = ad k) : wlg ca ad' cs = wlg ca ad cs := by
  apply List.ext_getElem?
  intro k
  unfold wlg
  rw [List.getElem?_mapIdx, List.getElem?_mapIdx]
  cases hk : cs[k]? with
  | none => rfl
  | some q =>
    have hlt := (List.getElem?_eq_some_iff.mp hk).1
    simp only [Option.map_some]
    rw [reA_ok (List.all_eq_true.mp h q (List.mem_of_getElem? hk)) ha, ha k (by omega)]
theorem lvL_ok (ha : ∀ k, k < n → ad' k = ad k) : ∀ {L : List (Option Value)} (i : Nat), L.all (okO n) = true → lvL ad' i L = lvL ad i L
  | [], i, _ => rfl
  | none :: r, i, h => by
    rw [List.all_cons, Bool.and_eq_true] at h
    show lvL ad' (i + 1) r = lvL ad (i + 1) r
    exact lvL_ok ha (i + 1) h.2
  | some v :: r, i, h => by
    rw [List.all_cons, Bool.and_eq_true] at h
    show (i, tv ad' v) :: lvL ad' (i + 1) r = (i, tv ad v) :: lvL ad (i + 1) r
    rw [lvL_ok ha (i + 1) h.2, tv_ok h.1 ha]
theorem st_ok {st : List Value} (h : st.all (okV n) = true) (ha : ∀ k, k < n → ad' k = ad k) : st.map (tv ad') = st.map (tv ad) := List.map_congr_left (fun v hv => tv_ok (List.all_eq_true.mp h v hv) ha)
end OK
theorem wlg_app (ca ad : Nat → Nat) (cs : List AC) (q : AC) : wlg ca ad (cs ++ [q]) = wlg ca ad cs ++ [(ad cs.length, reA ca ad q)] := by
  unfold wlg
  rw [List.mapIdx_append]
  simp
theorem wlg_get {ca ad : Nat → Nat} {cs : List AC} {a : Nat} {q : AC} (h : cs[a]? = some q) : (wlg ca ad cs)[a]? = some (ad a, reA ca ad q) := by
  unfold wlg
  rw [List.getElem?_mapIdx, h]
  rfl
theorem wlg_set {ca ad : Nat → Nat} {cs : List AC} {a : Nat} (q : AC) : (wlg ca ad cs).set a (ad a, reA ca ad q) = wlg ca ad (cs.set a q) := by
  apply List.ext_getElem?
  intro k
  unfold wlg
  by_cases hk : k = a
  · subst hk
    by_cases hl : k < cs.length
    · rw [List.getElem?_set_self (by simpa using hl), List.getElem?_mapIdx, List.getElem?_set_self hl]
      rfl
    · rw [List.getElem?_eq_none (by simp; omega), List.getElem?_eq_none (by simp; omega)]
  · rw [List.getElem?_set_ne (Ne.symm hk), List.getElem?_mapIdx, List.getElem?_mapIdx, List.getElem?_set_ne (Ne.symm hk)]
def NGs : List Cond := [.methodLinkNest RX11 9 yX0_init RX11, .methodLinkNest RX11 28 yX6_init RX11, .methodLinkNest RX11 76 yX7_init RX11, .methodLinkNest RX0 11 yX4_init RX11, .methodLinkNest RX0 20 yX10_init RX11, .methodLinkNest RX0 52 yX7_init RX11, .methodLinkNest RX1 11 yX2_init RX11, .methodLinkNest RX9 11 yX2_init RX11, .methodLinkNest RX5 11 yX7_init RX11]
def AO5 (ca : Nat → Nat) (U : State) : Prop := ∃ kA : Class, U.vm.classes[ca 5]? = some kA ∧ kA.kind = .array (ca 1) (.array .int)
theorem AO5.moved {ca : Nat → Nat} {u U : State} (hvm : u.vm.Alike U.vm) (h : AO5 ca u) : AO5 ca U := by
  obtain ⟨kA, h1, h2⟩ := h
  obtain ⟨k', hk', he⟩ := hvm.2.2 _ _ h1
  exact ⟨k', hk', by rw [he]; exact h2⟩
def NG (U : State) : Prop := ∀ w ∈ NGs, va_Nw w U
theorem NG.warm {s U : State} (hW : s.WarmedH U.vm) (h : NG s) : NG U := by
  intro w hw
  have h1 := h w hw
  simp only [NGs, List.mem_cons, List.not_mem_nil, or_false] at hw
  rcases hw with rfl | rfl | rfl | rfl | rfl | rfl | rfl | rfl | rfl <;> exact va_Nw.warmM hW h1
theorem NG.same {s U : State} (hv : s.vm = U.vm) (h : NG s) : NG U := by
  intro w hw
  have h1 := h w hw
  simp only [NGs, List.mem_cons, List.not_mem_nil, or_false] at hw
  rcases hw with rfl | rfl | rfl | rfl | rfl | rfl | rfl | rfl | rfl <;> exact va_Nw.same rfl hv h1
def KG (D : va_G) (ca : Nat → Nat) (U : State) : Prop := KX D ca U ∧ NG U ∧ AO5 ca U
theorem KG.warm {D : va_G} {ca : Nat → Nat} {s U : State} (hW : s.WarmedH U.vm) (h : KG D ca s) : KG D ca U := ⟨h.1.warm hW, h.2.1.warm hW, h.2.2.moved hW.alike⟩
theorem KG.call {D : va_G} {ca : Nat → Nat} {U : State} {g : JFrame} {mk : MethodId} {a : Array Value} (h : KG D ca U) : KG D ca (U.calling g mk a) := ⟨h.1.call, NG.same (s := U) (U := U.calling g mk a) (show U.vm = (U.calling g mk a).vm from rfl) h.2.1, AO5.moved (u := U) (U := U.calling g mk a) (Vm.Alike.refl U.vm) h.2.2⟩
def rmG (d mc ms : Nat) : Room := { frames := d + 1, cells := mc, slots := ms, locals := 60 * (d + 1) }
/-- THE JUDGEMENT of constructors: from pc, with cs, the method comes to its return with csF -/
def Jg (own : String) (cc : ByteArray) (nL d mc ms : Nat) (csF cs : List AC) (cl sl pc : Nat) (L : List (Option Value)) (st : List Value) : Prop :=
  ∀ (p : Program) (l : Launch) (e : Env) (s : State) (m : MethodId) (args : Array Value) (below : List Frame) (meth : Method) (c : Code) (D : va_G) (ca ad : Nat → Nat) (A : Nat → Prop) (H : Heap) (locs : List Loc) (ls : Array Slot) (Z : State → Prop),
    CallFix p m c cc nL s args GW own → meth.name = "<init>" → KG D ca s → va_P D vwCl (wlg ca ad cs) H → va_D A (wlg ca ad cs) → va_S A s.heap H locs → (∀ q, s.heap.size ≤ q → A q) → lv_has ls nL (lvL ad 0 L) →
    (∀ (ad' : Nat → Nat) (H' : Heap) (locs' : List Loc) (pc' : Nat) (ls' : Array Slot), (∀ k, k < cs.length → ad' k = ad k) → va_P D vwCl (wlg ca ad' csF) H' → va_D A (wlg ca ad' csF) → va_S A s.heap H' locs' → decode cc pc' = .ok (.return_, 1) → W p l e (rmG d mc ms) s m args below meth c H' locs' mc ms Z (F0 m pc' ls' [])) →
    W p l e (rmG d mc ms) s m args below meth c H locs cl sl Z (F0 m pc ls (st.map (tv ad)))
/-- a constructor's contract -/
def Cg (y : MethodName) (cc : ByteArray) (nL d mc ms : Nat) (as : List Value) (cs csF : List AC) : Prop :=
  ∀ (l : Launch) (D : va_G) (ca ad : Nat → Nat) (sz : Nat), Met l y (.code y cc nL none :: GW) (rmG d mc ms) (va_Pc (as.map (tv ad)) (fun U => U.heap.size = sz ∧ va_P D vwCl (wlg ca ad cs) U.heap ∧ KG D ca U ∧ va_D (fun _ => True) (wlg ca ad cs)))
    (fun _ st oc t => oc = .returned none ∧ (∃ ad' : Nat → Nat, (∀ k, k < cs.length → ad' k = ad k) ∧ va_P D vwCl (wlg ca ad' csF) t.heap ∧ va_D (va_A (wlg ca ad cs) sz) (wlg ca ad' csF)) ∧ va_F (va_A (wlg ca ad cs) sz) st t) mc ms (va_A (wlg ca ad cs) sz)
def FLx (own : String) (index ci k : Nat) (ty : FieldType) : Prop := ∃ (C : String) (T : u_T) (N : Nat) (t0 : Nat → FieldType), (vwCl[ci]? = some (C, T, N) ∧ k < N ∧ (∀ w ∈ u_ws C T N, w ∈ GW) ∧ Cond.fieldLink own index (T k).1 (T k).2.1 (T k).2.2.1 ∈ GW) ∧ (∀ k, k < N → parseFieldDescriptor (T k).2.2.1 = some (t0 k)) ∧ (∀ a, a < N → ∀ b, b < N → a ≠ b → (T a).2.1 ≠ (T b).2.1) ∧ ((T k).2.2.2 = false ∨ ((T k).2.2.2 = true ∧ (T k).1 = own)) ∧ parseFieldDescriptor (T k).2.2.1 = some ty
section JG
variable {own : String} {cc : ByteArray} {nL d mc ms : Nat} {csF cs : List AC} {cl sl pc : Nat} {L : List (Option Value)} {st : List Value}
theorem g_return (hd : decode cc pc = .ok (.return_, 1)) (h : csF = cs) (hc : cl ≤ mc) (hs : sl ≤ ms) : Jg own cc nL d mc ms csF cs cl sl pc L [] :=
  fun p l e s m args below meth c D ca ad A H locs ls Z C hI hK hP hD hS hA hl hR => W.widen (k := mc) (n := ms) hc hs (hR ad H locs pc ls (fun _ _ => rfl) (h ▸ hP) (h ▸ hD) hS hd)
theorem g_iconst {n : Int} {v : Int32} (hd : decode cc pc = .ok (.iconst n, 1)) (hv : Int32.ofInt n = v) (k : Jg own cc nL d mc ms csF cs cl sl (pc + 1) L (.int v :: st)) : Jg own cc nL d mc ms csF cs cl sl pc L st :=
  fun p l e s m args below meth c D ca ad A H locs ls Z C hI hK hP hD hS hA hl hR => lv_iconst C.1 C.2.1 hd hv (k p l e s m args below meth c D ca ad A H locs ls Z C hI hK hP hD hS hA hl hR)
theorem g_bipush {n : Int} {v : Int32} (hd : decode cc pc = .ok (.bipush n, 2)) (hv : (Int8.ofInt n).toInt32 = v) (k : Jg own cc nL d mc ms csF cs cl sl (pc + 2) L (.int v :: st)) : Jg own cc nL d mc ms csF cs cl sl pc L st :=
  fun p l e s m args below meth c D ca ad A H locs ls Z C hI hK hP hD hS hA hl hR => lv_bipush C.1 C.2.1 hd hv (k p l e s m args below meth c D ca ad A H locs ls Z C hI hK hP hD hS hA hl hR)
theorem g_sipush {n : Int} {v : Int32} (hd : decode cc pc = .ok (.sipush n, 3)) (hv : (Int16.ofInt n).toInt32 = v) (k : Jg own cc nL d mc ms csF cs cl sl (pc + 3) L (.int v :: st)) : Jg own cc nL d mc ms csF cs cl sl pc L st :=
  fun p l e s m args below meth c D ca ad A H locs ls Z C hI hK hP hD hS hA hl hR => lv_sipush C.1 C.2.1 hd hv (k p l e s m args below meth c D ca ad A H locs ls Z C hI hK hP hD hS hA hl hR)
theorem g_aload_n {q : Fin 4} {x : Nat} (hd : decode cc pc = .ok (.aload_n q, 1)) (hL : L[(q : Nat)]? = some (some (.ref x))) (k : Jg own cc nL d mc ms csF cs cl sl (pc + 1) L (.ref x :: st)) : Jg own cc nL d mc ms csF cs cl sl pc L st :=
  fun p l e s m args below meth c D ca ad A H locs ls Z C hI hK hP hD hS hA hl hR => lv_aload_n C.1 C.2.1 hd rfl (lvL_get hl hL) (k p l e s m args below meth c D ca ad A H locs ls Z C hI hK hP hD hS hA hl hR)
theorem g_dup {x : Value} (hd : decode cc pc = .ok (.dup, 1)) (hx : x.category = 1) (k : Jg own cc nL d mc ms csF cs cl sl (pc + 1) L (x :: x :: st)) : Jg own cc nL d mc ms csF cs cl sl pc L (x :: st) :=
  fun p l e s m args below meth c D ca ad A H locs ls Z C hI hK hP hD hS hA hl hR => lv_dup C.1 C.2.1 hd (by rw [tv_cat]; exact hx) (k p l e s m args below meth c D ca ad A H locs ls Z C hI hK hP hD hS hA hl hR)
/-- one cell more -/
theorem g_grow {x : AC} {cl1 sl1 pc1 n : Nat} {st1 : List Value} {p : Program} {l : Launch} {e : Env} {s : State} {m : MethodId} {args : Array Value} {below : List Frame} {meth : Method} {c : Code} {D : va_G} {ca ad : Nat → Nat} {A : Nat → Prop} {locs : List Loc} {ls : Array Slot} {Z : State → Prop}
    (ok : gok n cs L st1 = true) (hx : ∀ ad : Nat → Nat, ∀ q, reA ca (fun k => if k = n then q else ad k) x = reA ca ad x) (k : Jg own cc nL d mc ms csF (cs ++ [x]) cl1 sl1 pc1 L (.ref n :: st1))
    (C : CallFix p m c cc nL s args GW own) (hI : meth.name = "<init>") (hK : KG D ca s) (hA : ∀ q, s.heap.size ≤ q → A q) (hl : lv_has ls nL (lvL ad 0 L))
    (hR : ∀ (ad' : Nat → Nat) (H' : Heap) (locs' : List Loc) (pc' : Nat) (ls' : Array Slot), (∀ k, k < cs.length → ad' k = ad k) → va_P D vwCl (wlg ca ad' csF) H' → va_D A (wlg ca ad' csF) → va_S A s.heap H' locs' → decode cc pc' = .ok (.return_, 1) → W p l e (rmG d mc ms) s m args below meth c H' locs' mc ms Z (F0 m pc' ls' []))
    {q : Nat} {H1 : Heap} (hP1 : va_P D vwCl (wlg ca ad cs ++ [(q, reA ca ad x)]) H1) (hD1 : va_D A (wlg ca ad cs ++ [(q, reA ca ad x)])) (hS1 : va_S A s.heap H1 locs) : W p l e (rmG d mc ms) s m args below meth c H1 locs cl1 sl1 Z (F0 m pc1 ls (.ref q :: st1.map (tv ad))) := by
  obtain ⟨hn, o1, o2, o3⟩ := gok_x ok
  have ha : ∀ k, k < n → (fun k => if k = n then q else ad k) k = ad k := fun k hk => if_neg (Nat.ne_of_lt hk)
  have e1 : wlg ca (fun k => if k = n then q else ad k) (cs ++ [x]) = wlg ca ad cs ++ [(q, reA ca ad x)] := by
    rw [wlg_app, wlg_ok hn o1 ha, hx ad q, ← hn]
    simp
  have e2 : ((Value.ref n :: st1).map (tv (fun k => if k = n then q else ad k))) = .ref q :: st1.map (tv ad) := by
    rw [List.map_cons, st_ok o3 ha]
    show Value.ref (if n = n then q else ad n) :: _ = _
    rw [if_pos rfl]
  have h := k p l e s m args below meth c D ca (fun k => if k = n then q else ad k) A H1 locs ls Z C hI hK (by rw [e1]; exact hP1) (by rw [e1]; exact hD1) hS1 hA (by rw [lvL_ok ha 0 o2]; exact hl) (fun ad' H' locs' pc' ls' hag => hR ad' H' locs' pc' ls' (fun k hk => (hag k (by simp; omega)).trans (ha k (by omega))))
  rw [e2] at h
  exact h
theorem g_newa {i : Int32} {N t ti n : Nat} {aty : ArrayType} {ty : FieldType} {cs' : List AC} (hd : decode cc pc = .ok (.newarray aty, 2)) (hw : Cond.arrayClass (newarray.typeOf aty) ∈ GW) (hty : newarray.typeOf aty = ty) (hti : ∀ (ca : Nat → Nat) (cA : ClassId), (tysJ ca ++ [(cA, ty)])[ti]? = some (ca t, ty)) (hz : ∀ cA : ClassId, vp_cell cA (N, .inl (fun _ => 0)) = arrV cA N (fun _ => defaultValue ty))
    (hre : ∀ ca ad : Nat → Nat, reA ca ad (t, N, [], fun _ => 0) = .inl (ca t, N, .inl fun _ => 0)) (hra : ∀ (U : State) (c c' : ClassId), va_RA U c ty → va_RA U c' ty → c = c') (hn : ¬ i < 0) (hN : i.toNatClampNeg = N) (hb : N * componentBytes ty ≤ 536870912) (hc : cl + 1 ≤ mc) (hs : sl + N ≤ ms) (ok : gok n cs L st = true) (hcs : cs' = cs ++ [(t, N, [], fun _ => 0)])
    (k : Jg own cc nL d mc ms csF cs' (cl + 1) (sl + N) (pc + 2) L (.ref n :: st)) : Jg own cc nL d mc ms csF cs cl sl pc L (.int i :: st) := by
  subst hcs
  intro p l e s m args below meth c D ca ad A H locs ls Z C hI hK hP hD hS hA hl hR
  refine va_newa C.1 C.2.1 (C.2.2.2.2 _ hw) hty hK.1.1 hP hD hS hA (a0 := (N, .inl fun _ => 0)) hz hn hN hb hc hs hd (fun q cA H1 hK1 hP1 hD1 hS1 => ?_)
  have ec : cA = ca t := hra s cA (ca t) (hK1.2 5 _ rfl).2 (hK1.2 ti _ (hti ca cA)).2
  subst ec
  rw [← hre ca ad] at hP1 hD1
  exact g_grow ok (fun ad9 q9 => by rw [hre, hre]) k C hI hK hA hl hR hP1 hD1 hS1
theorem g_new {ci N index n : Nat} {C1 : String} {T : u_T} {t0 : Nat → FieldType} {fs : List Value} {cs' : List AC} (hd : decode cc pc = .ok (.new index, 3)) (hcl : vwCl[ci]? = some (C1, T, N)) (hin : ∀ w ∈ u_ws C1 T N, w ∈ GW) (hty : ∀ k, k < N → parseFieldDescriptor (T k).2.2.1 = some (t0 k)) (hw : Cond.classLink own index C1 ∈ GW ∧ Cond.instantiable C1 N ∈ GW ∧ Cond.initialized C1 ∈ GW) (hfs : ∀ j, j < N → defaultValue (t0 j) = vp_V fs j) (hft : ∀ ad : Nat → Nat, fs.map (tv ad) = fs)
    (hc : cl + 1 ≤ mc) (hs : sl + N ≤ ms) (ok : gok n cs L st = true) (hcs : cs' = cs ++ [(0, ci, fs, fun _ => 0)])
    (k : Jg own cc nL d mc ms csF cs' (cl + 1) (sl + N) (pc + 3) L (.ref n :: st)) : Jg own cc nL d mc ms csF cs cl sl pc L st := by
  subst hcs
  intro p l e s m args below meth c D ca ad A H locs ls Z C hI hK hP hD hS hA hl hR
  refine va_new C.1 C.2.1 C.2.2.2.2 hin t0 hty C.2.2.2.1 (C.2.2.2.2 _ hw.1) (C.2.2.2.2 _ hw.2.1) (C.2.2.2.2 _ hw.2.2) hK.1.1 hP hD hS hA hcl hfs hc hs hd (fun q H1 hP1 hD1 hS1 => ?_)
  have hre : ∀ ad : Nat → Nat, reA ca ad (0, ci, fs, fun _ => 0) = .inr (ci, fs) := fun ad => by
    show (Sum.inr (ci, fs.map (tv ad)) : va_E) = _
    rw [hft]
  rw [← hre ad] at hP1 hD1
  exact g_grow ok (fun ad9 q9 => by rw [hre, hre]) k C hI hK hA hl hR hP1 hD1 hS1
theorem g_put {a k ci index : Nat} {v : Value} {ty : FieldType} {fs : List Value} {f : Nat → Int32} {cs' : List AC} (hd : decode cc pc = .ok (.putfield index, 3)) (F : FLx own index ci k ty) (hc : cs[a]? = some (0, ci, fs, f)) (hlt : k < fs.length) (hn : ∀ ad : Nat → Nat, narrow ty (tv ad v) = tv ad v ∧ fits ty (tv ad v) = true) (hcs : cs' = cs.set a (0, ci, fs.set k v, f)) (q : Jg own cc nL d mc ms csF cs' cl sl (pc + 3) L st) : Jg own cc nL d mc ms csF cs cl sl pc L (v :: .ref a :: st) := by
  subst hcs
  intro p l e s m args below meth c D ca ad A H locs ls Z C hI hK hP hD hS hA hl hR
  obtain ⟨C1, T, N, t0, ⟨f1, f2, f3, f4⟩, f5, f6, f7, f8⟩ := F
  have e1 : (wlg ca ad cs).set a (ad a, .inr (ci, (fs.map (tv ad)).set k (tv ad v))) = wlg ca ad (cs.set a (0, ci, fs.set k v, f)) := by
    rw [← wlg_set (ca := ca) (ad := ad) (cs := cs) (a := a) (0, ci, fs.set k v, f)]
    show _ = (wlg ca ad cs).set a (ad a, .inr (ci, (fs.set k v).map (tv ad)))
    rw [List.map_set]
  have go : ∀ (H1 : Heap) (locs1 : List Loc), va_P D vwCl ((wlg ca ad cs).set a (ad a, .inr (ci, (fs.map (tv ad)).set k (tv ad v)))) H1 → va_D A ((wlg ca ad cs).set a (ad a, .inr (ci, (fs.map (tv ad)).set k (tv ad v)))) → va_S A s.heap H1 locs1 → W p l e (rmG d mc ms) s m args below meth c H1 locs1 cl sl Z (F0 m (pc + 3) ls (st.map (tv ad))) := fun H1 locs1 hP1 hD1 hS1 => by
    rw [e1] at hP1 hD1
    exact q p l e s m args below meth c D ca ad A H1 locs1 ls Z C hI hK hP1 hD1 hS1 hA hl (fun ad' H' locs' pc' ls' hag => hR ad' H' locs' pc' ls' (fun k hk => hag k (by rw [List.length_set]; exact hk)))
  rcases f7 with f7 | ⟨f7, f9⟩
  · exact va_put C.1 C.2.1 C.2.2.2.2 f3 t0 f5 f6 C.2.2.2.1 hK.1.1 hP hD hS a (wlg_get hc) f1 k f2 (C.2.2.2.2 _ f4) (fun _ z => z) f7 f8 (hn ad).1 (hn ad).2 (by simpa using hlt) hd go
  · exact va_putF C.1 C.2.1 C.2.2.2.2 f3 t0 f5 f6 C.2.2.2.1 hK.1.1 hP hD hS a (wlg_get hc) f1 k f2 (C.2.2.2.2 _ f4) (fun _ z => z) f7 hI f9 f8 (hn ad).1 (hn ad).2 (by simpa using hlt) hd go
theorem g_get {a k ci index : Nat} {v : Value} {fs : List Value} {f : Nat → Int32} (hd : decode cc pc = .ok (.getfield index, 3)) (F : FLg own index ci k) (hc : cs[a]? = some (0, ci, fs, f)) (hv : fs[k]? = some v) (q : Jg own cc nL d mc ms csF cs cl sl (pc + 3) L (v :: st)) : Jg own cc nL d mc ms csF cs cl sl pc L (.ref a :: st) := by
  intro p l e s m args below meth c D ca ad A H locs ls Z C hI hK hP hD hS hA hl hR
  obtain ⟨C1, T, N, f1, f2, f3, f4⟩ := F
  exact va_get C.1 C.2.1 C.2.2.2.2 f3 C.2.2.2.1 hK.1.1 hP a (wlg_get hc) f1 k f2 (C.2.2.2.2 _ f4) (fun _ z => z) (by rw [List.getElem?_map, hv]; rfl) hd (q p l e s m args below meth c D ca ad A H locs ls Z C hI hK hP hD hS hA hl hR)
theorem g_iastore {a n j : Nat} {i x : Int32} {l0 : List Value} {f : Nat → Int32} {cs' : List AC} (hd : decode cc pc = .ok (.iastore, 1)) (hc : cs[a]? = some (1, n, l0, f)) (hi : inb i n = true) (hj : i.toNatClampNeg = j) (hcs : cs' = cs.set a (1, n, l0, upd f j x)) (k : Jg own cc nL d mc ms csF cs' cl sl (pc + 1) L st) : Jg own cc nL d mc ms csF cs cl sl pc L (.int x :: .int i :: .ref a :: st) := by
  subst hj
  subst hcs
  intro p l e s m args below meth c D ca ad A H locs ls Z C hI hK hP hD hS hA hl hR
  refine va_iast C.1 C.2.1 hK.1.1 hP hD hS a 0 (wlg_get hc) rfl (inb_in hi) hd (fun H1 locs1 hP1 hD1 hS1 => ?_)
  have e1 : (wlg ca ad cs).set a (ad a, .inl (ca 1, n, .inl (upd f i.toNatClampNeg x))) = wlg ca ad (cs.set a (1, n, l0, upd f i.toNatClampNeg x)) := wlg_set (ca := ca) (ad := ad) (cs := cs) (a := a) (1, n, l0, upd f i.toNatClampNeg x)
  rw [e1] at hP1 hD1
  exact k p l e s m args below meth c D ca ad A H1 locs1 ls Z C hI hK hP1 hD1 hS1 hA hl (fun ad' H' locs' pc' ls' hag => hR ad' H' locs' pc' ls' (fun k hk => hag k (by rw [List.length_set]; exact hk)))
theorem g_obj {a index : Nat} (hd : decode cc pc = .ok (.invokespecial index, 3)) (hw : Cond.methodLink own index Lib.objectInit ∈ GW ∧ Cond.instanceMethod Lib.objectInit ∈ GW ∧ Cond.code Lib.objectInit ⟨#[0xb1]⟩ 1 none ∈ GW) (hst : (st.map fun v => v.category).sum ≤ 8) (k : Jg own cc nL d mc ms csF cs cl sl (pc + 3) L st) : Jg own cc nL d mc ms csF cs cl sl pc L (.ref a :: st) := by
  intro p l e s m args below meth c D ca ad A H locs ls Z C hI hK hP hD hS hA hl hR
  have hst' := st_tv (ad := ad) hst
  exact W.objInit C.1 C.2.1 C.2.2.2.1 (C.2.2.2.2 _ hw.1) (C.2.2.2.2 _ hw.2.1) (C.2.2.2.2 _ hw.2.2) (g := F0 m pc ls (.ref (ad a) :: st.map (tv ad))) rfl (hl.1.trans C.2.2.1.symm) rfl hd (by show 1 ≤ d + 1; omega) (by show 2 * 0 + _ + 12 ≤ 60 * (d + 1); omega) (k p l e s m args below meth c D ca ad A H locs ls Z C hI hK hP hD hS hA hl hR)
theorem Cg_blind {D : va_G} {ca ad : Nat → Nat} {av : List Value} {sz : Nat} : FrameBlind (va_Pc av (fun U => U.heap.size = sz ∧ va_P D vwCl (wlg ca ad cs) U.heap ∧ KG D ca U ∧ va_D (fun _ => True) (wlg ca ad cs))) := fun a U g mk q => by
  obtain ⟨q0, q1, qP, qK, qD⟩ := q
  exact ⟨q0, q1, qP, qK.call, qD⟩
theorem g_back {p : Program} {l : Launch} {e : Env} {s : State} {m : MethodId} {args : Array Value} {below : List Frame} {meth : Method} {c : Code} {D : va_G} {ca ad : Nat → Nat} {A : Nat → Prop} {H : Heap} {locs : List Loc} {ls : Array Slot} {Z : State → Prop} {R : Room} {mc1 ms1 : Nat} {cs1 : List AC} {st0 rest : List Value} (hD : va_D A (wlg ca ad cs)) (hS : va_S A s.heap H locs) (hA : ∀ q, s.heap.size ≤ q → A q)
    (hr : va_Run p l e R s m args below meth c H locs cl sl mc1 ms1 (F0 m pc ls st0) rest (fun st oc t => oc = .returned none ∧ (∃ ad' : Nat → Nat, (∀ k, k < cs.length → ad' k = ad k) ∧ va_P D vwCl (wlg ca ad' cs1) t.heap ∧ va_D (va_A (wlg ca ad cs) H.size) (wlg ca ad' cs1)) ∧ va_F (va_A (wlg ca ad cs) H.size) st t) (va_A (wlg ca ad cs) H.size))
    (kk : ∀ (ad' : Nat → Nat) (H1 : Heap) (locs1 : List Loc), (∀ k, k < cs.length → ad' k = ad k) → va_P D vwCl (wlg ca ad' cs1) H1 → va_D A (wlg ca ad' cs1) → va_S A s.heap H1 locs1 → W p l e R s m args below meth c H1 locs1 (cl + mc1) (sl + ms1) Z (F0 m (pc + 3) ls rest)) : W p l e R s m args below meth c H locs cl sl Z (F0 m pc ls st0) := by
  intro T hT X
  obtain ⟨v, st₀, t, T', L9, e0, X', hL, e1, e2, ⟨hv, ⟨ad', hag, hP1, hD1⟩, hz, hk⟩, st⟩ := hr T hT X
  cases hv
  rw [e0] at hz hk
  have hin : ∀ q, va_A (wlg ca ad cs) H.size q → A q := fun q hq => by
    rcases hq with ⟨k, e9, hq⟩ | hq
    · exact hD.2 k _ hq
    · exact hA q (Nat.le_trans hS.1 hq)
  have hS1 : va_S A s.heap T'.heap (locs ++ L9) := ⟨Nat.le_trans hS.1 (by rw [e1]; exact hz), fun q h1 h2 => by
      rw [e1, hk q (Nat.lt_of_lt_of_le h1 hS.1) (fun z => h2 (hin q z))]
      exact hS.2.1 q h1 h2, fun q hq => by
      rcases List.mem_append.mp hq with h | h
      · exact hS.2.2 q h
      · exact hin _ (hL q h)⟩
  obtain ⟨t2, a1, b1⟩ := kk ad' T'.heap (locs ++ L9) hag (by rw [e1]; exact hP1) (hD1.weaken (fun k q _ h => hin q.1 h)) hS1 T' rfl X'
  exact ⟨t2, st t2 a1, b1⟩
def YI (y : MethodName) (bytes : ByteArray) (maxL n : Nat) : Prop := Cond.instanceMethod y ∈ GW ∧ Cond.initialized y.cls ∈ GW ∧ Cond.code y bytes maxL none ∈ GW ∧ (y.cls ≠ "java/lang/invoke/MethodHandle" ∧ y.cls ≠ "java/lang/invoke/VarHandle" ∧ (parseMethodDescriptor y.desc).map (fun d => d.parameters.length) = some n) ∧ y.name = "<init>" ∧ maxL ≤ 41
theorem g_call {y : MethodName} {bytes : ByteArray} {maxL n d1 index a mc1 ms1 nn : Nat} {As : List Value} {cs1 : List AC} (hd : decode cc pc = .ok (.invokespecial index, 3)) (hw : Cond.methodLink own index y ∈ GW ∨ Cond.methodLinkNest own index y RX11 ∈ NGs) (hy : YI y bytes maxL n) (hC : Cg y bytes maxL d1 mc1 ms1 (.ref a :: As) cs cs1) (hd1 : d1 + 1 ≤ d) (hn : As.length = n) (hst : (st.map fun v => v.category).sum ≤ 8) {sta : List Value} (hsta : sta = As.reverse ++ .ref a :: st)
    (hc : cl + mc1 ≤ mc) (hs : sl + ms1 ≤ ms) (hlen : cs.length ≤ cs1.length) (ok : gok nn cs L st = true) (k : Jg own cc nL d mc ms csF cs1 (cl + mc1) (sl + ms1) (pc + 3) L st) : Jg own cc nL d mc ms csF cs cl sl pc L sta := by
  subst hsta
  intro p l e s m args below meth c D ca ad A H locs ls Z C hI hK hP hD hS hA hl hR
  have hst' := st_tv (ad := ad) hst
  have hts := C.2.2.2.2
  obtain ⟨o0, o1, o2, o3⟩ := gok_x ok
  have hM := hC l D ca ad H.size
  have hrm : (rmG d1 mc1 ms1).frames + 1 ≤ (rmG d mc ms).frames ∧ 8 + (maxL + 11) + (rmG d1 mc1 ms1).locals ≤ (rmG d mc ms).locals := ⟨by show d1 + 1 + 1 ≤ d + 1; omega, by show 8 + (maxL + 11) + 60 * (d1 + 1) ≤ 60 * (d + 1); have := hy.2.2.2.2.2; omega⟩
  have hpre : PreS s H (va_Pc ((.ref a :: As).map (tv ad)) (fun U => U.heap.size = H.size ∧ va_P D vwCl (wlg ca ad cs) U.heap ∧ KG D ca U ∧ va_D (fun _ => True) (wlg ca ad cs))) (.ref (ad a) :: As.map (tv ad)) := ⟨Cg_blind, fun U hU hW => ⟨by simp [tv], by rw [hU], by rw [hU]; exact hP, hK.warm hW, hD.weaken (fun _ _ _ _ => trivial)⟩⟩
  have hrun : va_Run p l e (rmG d mc ms) s m args below meth c H locs cl sl mc1 ms1 (F0 m pc ls ((As.reverse ++ .ref a :: st).map (tv ad))) (st.map (tv ad)) (fun st oc t => oc = .returned none ∧ (∃ ad' : Nat → Nat, (∀ k, k < cs.length → ad' k = ad k) ∧ va_P D vwCl (wlg ca ad' cs1) t.heap ∧ va_D (va_A (wlg ca ad cs) H.size) (wlg ca ad' cs1)) ∧ va_F (va_A (wlg ca ad cs) H.size) st t) (va_A (wlg ca ad cs) H.size) := by
    rcases hw with hw | hw
    · exact va_runI (g := F0 m pc ls ((As.reverse ++ .ref a :: st).map (tv ad))) (As := As.map (tv ad)) (b := ad a) (rest := st.map (tv ad)) (index := index) (n := n) C hM ⟨callB_of n hts (gw_cons hy.2.2.1) rfl rfl rfl (hts _ hy.2.1) (hts _ hw) hy.2.2.2.1 hrm, hy.2.2.2.2.1, hts _ hy.1⟩ hpre rfl (by simp [hn]) hl.1 (by simp [tv, List.map_reverse]) (lv_room hst') hd ⟨hc, hs⟩
    · exact va_runIN (g := F0 m pc ls ((As.reverse ++ .ref a :: st).map (tv ad))) (As := As.map (tv ad)) (b := ad a) (rest := st.map (tv ad)) (index := index) (n := n) C hM ⟨va_cnB n hts (gw_cons hy.2.2.1) rfl rfl rfl (hK.2.1 _ hw) (hts _ hy.2.1) hy.2.2.2.1 hrm, hy.2.2.2.2.1, hts _ hy.1⟩ hpre rfl (by simp [hn]) hl.1 (by simp [tv, List.map_reverse]) (lv_room hst') hd ⟨hc, hs⟩
  refine g_back hD hS hA hrun (fun ad' H1 locs1 hag hP1 hD1 hS1 => ?_)
  have hag' : ∀ k, k < nn → ad' k = ad k := fun k hk => hag k (by omega)
  rw [← st_ok o3 hag']
  exact k p l e s m args below meth c D ca ad' A H1 locs1 ls Z C hI hK hP1 hD1 hS1 hA (by rw [lvL_ok hag' 0 o2]; exact hl) (fun ad2 H' locs' pc' ls' hag2 => hR ad2 H' locs' pc' ls' (fun k hk => (hag2 k (by omega)).trans (hag k hk)))
theorem Cg_of {y : MethodName} {as : List Value} {L : List (Option Value)} (hy : plainName y.cls = true) (hnm : y.name = "<init>") (hlen : (lg_sl as).length ≤ nL) (hlen2 : ∀ ad : Nat → Nat, (lg_sl (as.map (tv ad))).length = (lg_sl as).length) (hL : lsub L (entL as)) (hJ : Jg y.cls cc nL d mc ms csF cs 0 0 0 L []) : Cg y cc nL d mc ms as cs csF := by
  intro l D ca ad sz
  refine Met.ofW (cc := cc) (maxL := nL) (ret := none) hy rfl ?_
  intro p e s m args below meth c s₁ B hml hv
  obtain ⟨rfl, hsz, hP, hK, hD0⟩ := hv
  subst hsz
  have hts : ∀ w ∈ GW, w.before ((as.map (tv ad)).toArray) s = true := fun w hw => atoms_spec (ws := .code y cc nL none :: GW) B.pre w (List.mem_cons_of_mem _ hw)
  have hown : s.vm.findClass y.cls = some m.cls := findClass_of_methodNamed B.named
  have hlocks := B.notSynchronized
  have hin : meth.name = "<init>" := (name_of_methodNamed B.named B.method).1.trans hnm
  have hD := hD0.self (sz := s.heap.size)
  have hl := lv_entry (as.map (tv ad)) (n := nL) (by rw [hlen2]; exact hlen)
  rw [← entL_args] at hl
  rw [lg_entry_eq]
  refine hJ p l e s m _ below meth c D ca ad (va_A (wlg ca ad cs) s.heap.size) s.heap [] _ _ ⟨B.exec, B.bytes, hml, hown, hts⟩ hin hK hP hD va_S.rf (fun q hq => Or.inr hq) (lsub_has hL hl) ?_
  intro ad' H' locs' pc' ls' hag hP' hD' hS' hdg
  exact W.vret B.exec B.bytes B.returns (fun t ht hW => ⟨rfl, ⟨ad', hag, by rw [ht]; exact hP', hD'⟩, hS'.F ht⟩) hS'.2.2 hdg
end JG
