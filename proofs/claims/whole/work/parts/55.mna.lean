/-! new int[N][K]: the machine's own making of rows, walked here (no row of the kit has it) -/
def mgO (c : ClassId) (N b i : Nat) : Cell := arrV c N (fun j => va_rf (if j < i then some (b + 1 + j) else none))
def mgI (c : ClassId) (K : Nat) : Cell := arrV c K (fun _ => .int 0)
def mgS (T : State) (cA cI : ClassId) (N K : Nat) : Nat → State
  | 0 => T.pushCell (mgO cA N T.heap.size 0)
  | i + 1 => ((mgS T cA cI N K i).pushCell (mgI cI K)).setCell T.heap.size (mgO cA N T.heap.size (i + 1))
theorem mgO_next (c : ClassId) (N b i : Nat) : (mgO c N b i).setSlot i (.ref (b + 1 + i)) = mgO c N b (i + 1) := by
  unfold mgO
  rw [arrV_store]
  refine congrArg (arrV c N) (funext fun j => ?_)
  by_cases e : j = i
  · subst e
    simp [updV, va_rf]
  · by_cases h : j < i
    · simp [updV, e, h, Nat.lt_succ_of_lt h]
    · simp [updV, e, h, show ¬ j < i + 1 by omega]
theorem mg_facts (T : State) (cA cI : ClassId) (N K : Nat) : ∀ i, (mgS T cA cI N K i).heap.size = T.heap.size + 1 + i ∧ (mgS T cA cI N K i).heap[T.heap.size]? = some (mgO cA N T.heap.size i) ∧ (mgS T cA cI N K i).vm = T.vm ∧ (mgS T cA cI N K i).slotsUsed = T.slotsUsed + N + i * K
  | 0 => ⟨by simp [mgS], by simp [mgS], rfl, by simp [mgS, mgO, arrV]⟩
  | i + 1 => by
    obtain ⟨a, b, d, u⟩ := mg_facts T cA cI N K i
    have hlt : T.heap.size < (mgS T cA cI N K i).heap.size := by omega
    have hb' : ((mgS T cA cI N K i).pushCell (mgI cI K)).heap[T.heap.size]? = some (mgO cA N T.heap.size i) := by
      rw [State.heap_pushCell_of_lt (h := hlt)]
      exact b
    refine ⟨?_, State.heap_setCell_self hb', by simp [mgS, d], ?_⟩
    · simp [mgS, State.setCell, a]
      omega
    · simp [mgS, u, mgI, arrV, Nat.succ_mul]
      omega
theorem mg_top (T : State) (f : JFrame) (cA cI : ClassId) (N K : Nat) : ∀ i, mgS (T.setTop f) cA cI N K i = (mgS T cA cI N K i).setTop f
  | 0 => rfl
  | i + 1 => by simp only [mgS, mg_top T f cA cI N K i, State.heap_setTop, State.pushCell_setTop, State.setCell_setTop]
theorem mg_old (T : State) (cA cI : ClassId) (N K : Nat) {a : Addr} (ha : a < T.heap.size) : ∀ i, (mgS T cA cI N K i).heap[a]? = T.heap[a]?
  | 0 => State.heap_pushCell_of_lt _ _ ha
  | i + 1 => by
    have f1 := (mg_facts T cA cI N K i).1
    have hlt : a < (mgS T cA cI N K i).heap.size := Nat.lt_of_lt_of_le ha (by rw [f1]; omega)
    show (((mgS T cA cI N K i).pushCell (mgI cI K)).setCell T.heap.size _).heap[a]? = _
    rw [State.heap_setCell_other (Nat.ne_of_gt ha), State.heap_pushCell_of_lt (h := hlt)]
    exact mg_old T cA cI N K ha i
theorem mg_row (T : State) (cA cI : ClassId) (N K : Nat) : ∀ i j, j < i → (mgS T cA cI N K i).heap[T.heap.size + 1 + j]? = some (mgI cI K)
  | 0, _, h => absurd h (Nat.not_lt_zero _)
  | i + 1, j, h => by
    have f1 := (mg_facts T cA cI N K i).1
    show (((mgS T cA cI N K i).pushCell (mgI cI K)).setCell T.heap.size _).heap[T.heap.size + 1 + j]? = _
    rw [State.heap_setCell_other (show T.heap.size ≠ T.heap.size + 1 + j by omega)]
    by_cases hj : j < i
    · have hlt : T.heap.size + 1 + j < (mgS T cA cI N K i).heap.size := by omega
      rw [State.heap_pushCell_of_lt (h := hlt)]
      exact mg_row T cA cI N K i j hj
    · have e : j = i := by omega
      subst e
      rw [← f1]
      exact State.heap_pushCell_size _ _
section MG
variable {E : CtlPost} {e : Env} {d : Bool} {acts : List Action} {s : State}
theorem mg_wpnew {c comp : ClassId} {k : Class} {type : FieldType} {len : Nat} {init : Value} (hk : s.vm.classes[c]? = some k) (hkind : k.kind = .array comp type) (h0 : ¬ len > e.platform.arrayLengthLimit) (h3 : ¬ len * componentBytes type > e.platform.maxHeapBytes) (hfit : fits type init = true) (hdef : init.isDefault = true) {Q : Addr → Pre} (h1 : s.heap.size < e.platform.maxCells) (h2 : s.slotsUsed + len ≤ e.platform.maxSlots)
    (hq : Q s.heap.size d acts (s.pushCell (arrV c len (fun _ => init)))) : wp (Jvm.newArray c len init) Q E e d acts s := by
  have hf : ∀ i v, (Array.replicate len init)[i]? = some v → s.fitsSlot c .none i v = true := by
    intro i v hv
    simp only [Array.getElem?_replicate] at hv
    split at hv
    · cases hv
      simp [State.fitsSlot, State.slotType?, hk, hkind, hfit]
    · cases hv
  have ha : allocActs (Array.replicate len init) s.heap.size acts = acts := by
    unfold allocActs
    rw [if_pos (by rw [Array.all_replicate]; split <;> simp [hdef])]
  rw [← arrV_new] at hq
  simp only [Jvm.newArray, Jvm.arrayFits, wp_bind', W.ask, W.ite, h0, if_false, wp_pure', W.theClass, hk, hkind, h3, W.alloc, W.stop, Option.some.injEq, exists_eq_left', Array.size_replicate, ha]
  rw [if_neg (by omega)]
  exact ⟨h1, h2, hf, hq⟩
theorem mg_wp1 {cI cc : ClassId} {kc : Class} {m : Int32} (hkc : s.vm.classes[cI]? = some kc) (hkind : kc.kind = .array cc .int) (hm : ¬ m < 0) (h0 : ¬ m.toNatClampNeg > e.platform.arrayLengthLimit) (h3 : ¬ m.toNatClampNeg * componentBytes .int > e.platform.maxHeapBytes) (h1 : s.heap.size < e.platform.maxCells) (h2 : s.slotsUsed + m.toNatClampNeg ≤ e.platform.maxSlots)
    {Q : Addr → Pre} (hq : Q s.heap.size d acts (s.pushCell (mgI cI m.toNatClampNeg))) : wp (multianewarray.make cI [m]) Q E e d acts s := by
  rw [multianewarray.make]
  simp only [wp_bind', W.ite, hm, if_false, wp_pure', W.theClass, hkc, hkind, Option.some.injEq, exists_eq_left']
  exact mg_wpnew hkc hkind h0 h3 rfl rfl h1 h2 hq
theorem mg_wp2 {cA cI cc : ClassId} {k kc : Class} {n m : Int32} (hk : s.vm.classes[cA]? = some k) (hkind : k.kind = .array cI (.array .int)) (hkc : s.vm.classes[cI]? = some kc) (hkindc : kc.kind = .array cc .int) (hn : ¬ n < 0) (hm : ¬ m < 0)
    (hl1 : ¬ n.toNatClampNeg > e.platform.arrayLengthLimit) (hh1 : ¬ n.toNatClampNeg * componentBytes (.array .int) > e.platform.maxHeapBytes) (hl2 : ¬ m.toNatClampNeg > e.platform.arrayLengthLimit) (hh2 : ¬ m.toNatClampNeg * componentBytes .int > e.platform.maxHeapBytes)
    (hc : s.heap.size + 1 + n.toNatClampNeg ≤ e.platform.maxCells) (hs : s.slotsUsed + n.toNatClampNeg + n.toNatClampNeg * m.toNatClampNeg ≤ e.platform.maxSlots)
    {Q : Addr → Pre} (hq : ∀ d' acts', Q s.heap.size d' acts' (mgS s cA cI n.toNatClampNeg m.toNatClampNeg n.toNatClampNeg)) : wp (multianewarray.make cA [n, m]) Q E e d acts s := by
  generalize hN : n.toNatClampNeg = N at *
  generalize hM : m.toNatClampNeg = M at *
  have hfind : ([m].find? (· < 0)) = none := by simp [hm]
  rw [multianewarray.make]
  simp only [wp_bind', W.ite, hn, if_false, wp_pure', W.theClass, hk, hkind, Option.some.injEq, exists_eq_left', hN]
  refine mg_wpnew hk hkind hl1 hh1 rfl rfl (by omega) (by have := Nat.zero_le (N * M); omega) ?_
  simp only [hfind]
  rw [ite_self, wp_bind', Std.Legacy.Range.forIn_eq_forIn_range']
  rw [show ([:N] : Std.Legacy.Range).size = N by simp [Std.Legacy.Range.size]]
  show wp (forIn (List.range' 0 N 1) PUnit.unit _) _ E e d acts _
  refine wp_forIn_inv (fun rest s' => ∃ i, i ≤ N ∧ rest = List.range' i (N - i) ∧ s' = mgS s cA cI N M i) _ _ ⟨0, Nat.zero_le _, rfl, ?_⟩ ?_ ?_
  · show s.pushCell _ = s.pushCell _
    refine congrArg s.pushCell ?_
    unfold mgO
    refine congrArg (arrV cA N) (funext fun j => ?_)
    simp [va_rf, defaultValue]
  · rintro x rest s' d' acts' Q' ⟨i, hi, hl, rfl⟩ hnext
    have hlt : i < N := by
      by_cases h : i < N
      · exact h
      · rw [show N - i = 0 by omega] at hl
        simp at hl
    rw [show N - i = (N - (i + 1)) + 1 by omega, List.range'_succ] at hl
    obtain ⟨rfl, hrest⟩ := List.cons.inj hl
    obtain ⟨f1, f2, f3, f4⟩ := mg_facts s cA cI N M x
    have hmul : x * M + M ≤ N * M := by
      have := Nat.mul_le_mul_right M (show x + 1 ≤ N from hlt)
      rw [Nat.succ_mul] at this
      exact this
    have hlt0 : s.heap.size < (mgS s cA cI N M x).heap.size := by omega
    simp only [wp_bind']
    refine mg_wp1 (by rw [f3]; exact hkc) hkindc hm (by rw [hM]; exact hl2) (by rw [hM]; exact hh2) (by omega) (by rw [hM]; omega) ?_
    simp only [wp_bind', W.writeLoc, wp_pure']
    refine ⟨mgO cA N s.heap.size x, by rw [State.heap_pushCell_of_lt (h := hlt0)]; exact f2, by simp [mgO, arrV], by rw [mgO, arrV_size]; exact hlt, ?_, hnext _ _ _ ⟨x + 1, hlt, hrest, ?_⟩⟩
    · simp [mgO, arrV, State.fitsSlot, State.slotType?, f3, hk, hkind, fits]
    · rw [f1, mgO_next, hM]
      rfl
  · rintro s' d' acts' ⟨i, hi, hl, rfl⟩
    have hiN : i = N := by
      by_cases h : i < N
      · rw [show N - i = (N - (i + 1)) + 1 by omega, List.range'_succ] at hl
        cases hl
      · omega
    subst hiN
    simp only [wp_pure']
    exact hq _ _
end MG
theorem mg_stand {p : Program} {l : Launch} {e : Env} {R : Room} {s : State} {m : MethodId} {args : Array Value} {below : List Frame} {meth : Method} {c : Code} {T : State} {locs : List Loc} {cells slots : Nat} (X : Stand p l e R s m args below meth c T locs cells slots) (cA cI : ClassId) (N K : Nat) :
    ∀ i, Stand p l e R s m args below meth c (mgS T cA cI N K i) (locs ++ (List.range i).map fun j => ⟨T.heap.size, j⟩) (cells + 1 + i) (slots + N + i * K)
  | 0 => by
    have h := X.pushed (mgO cA N T.heap.size 0)
    rw [show (mgO cA N T.heap.size 0).slots.size = N from arrV_size _ _ _] at h
    simpa [mgS] using h
  | i + 1 => by
    have Xi := mg_stand X cA cI N K i
    obtain ⟨f1, f2, f3, f4⟩ := mg_facts T cA cI N K i
    have hlt0 : T.heap.size < (mgS T cA cI N K i).heap.size := by omega
    have hcell : ((mgS T cA cI N K i).pushCell (mgI cI K)).heap[T.heap.size]? = some (mgO cA N T.heap.size i) := by
      rw [State.heap_pushCell_of_lt (h := hlt0)]
      exact f2
    have h := (Xi.pushed (mgI cI K)).stored hcell i (.ref (T.heap.size + 1 + i))
    rw [show (mgI cI K).slots.size = K from arrV_size _ _ _, mgO_next] at h
    rw [show (locs ++ (List.range (i + 1)).map fun j => (⟨T.heap.size, j⟩ : Loc)) = (locs ++ (List.range i).map fun j => (⟨T.heap.size, j⟩ : Loc)) ++ [⟨T.heap.size, i⟩] by simp [List.range_succ, List.append_assoc], show slots + N + (i + 1) * K = slots + N + i * K + K by rw [Nat.succ_mul]; omega]
    exact h
section JG
variable {own : String} {cc : ByteArray} {nL d mc ms : Nat} {csF cs : List AC} {cl sl pc : Nat} {L : List (Option Value)} {st : List Value}
theorem g_mna {i1 k1 : Int32} {N K n index : Nat} {cs' : List AC} (hd : decode cc pc = .ok (.multianewarray index 2, 4)) (hw : Cond.classLink own index ("[" ++ (FieldType.array .int).toString) ∈ GW) (hn : ¬ i1 < 0) (hk : ¬ k1 < 0) (hN : i1.toNatClampNeg = N) (hK1 : k1.toNatClampNeg = K) (hb1 : N * 4 ≤ 536870912) (hb2 : K * 4 ≤ 536870912) (hc : cl + (1 + N) ≤ mc) (hs : sl + (N + N * K) ≤ ms) (ok : gok n cs L st = true)
    (hcs : cs' = cs ++ ((5, N, [.ref (n + 1)], fun _ => 0) :: List.replicate N (1, K, [], fun _ => 0))) (k : Jg own cc nL d mc ms csF cs' (cl + 1 + N) (sl + N + N * K) (pc + 4) L (.ref n :: st)) : Jg own cc nL d mc ms csF cs cl sl pc L (.int k1 :: .int i1 :: st) := by
  subst hcs
  intro p l e s m args below meth c D ca ad A H locs ls Z C hI hK hP hD hS hA hl hR
  obtain ⟨o0, o1, o2, o3⟩ := gok_x ok
  intro T hT X
  have hpl : e.platform.magicAccessors = ({} : Platform).magicAccessors := by rw [X.admits.platform]
  obtain ⟨kA, hkA, hkindA⟩ := hK.2.2
  obtain ⟨-, kC, hkC, cc9, hkindC⟩ := (hK.1.1.2 0 _ rfl).1 0 (fun _ => .int 0)
  have hkC : s.vm.classes[ca 1]? = some kC := hkC
  have hkindC : kC.kind = .array cc9 .int := hkindC
  have hRA : s.vm.findClass ("[" ++ (FieldType.array .int).toString) = some (ca 5) := (hK.1.1.2 4 _ rfl).2
  obtain ⟨c0, hfc0, hcl⟩ := Cond.classLink_spec C.2.2.2.1 (C.2.2.2.2 _ hw) e.platform hpl
  have e5 : c0 = ca 5 := Option.some.inj (hfc0.symm.trans hRA)
  rw [e5] at hcl
  obtain ⟨hg₁, hwarm₁, hready₁⟩ := State.classEntry (e := e) X.warmed hcl
  generalize T.vm.noted m.cls index (.cls (ca 5)) = vm₁ at hg₁ hwarm₁ hready₁
  have hal : s.vm.Alike vm₁ := hwarm₁.alike
  obtain ⟨kA₁, hkA₁, heA⟩ := hal.2.2 _ _ hkA
  obtain ⟨kC₁, hkC₁, heC⟩ := hal.2.2 _ _ hkC
  have hkindA₁ : kA₁.kind = .array (ca 1) (.array .int) := by rw [heA]; exact hkindA
  have hkindC₁ : kC₁.kind = .array cc9 .int := by rw [heC]; exact hkindC
  have X₁ := X.noted hwarm₁
  obtain ⟨hr1, hr2⟩ := X.roomAbove hc hs
  have XF := mg_stand X₁ (ca 5) (ca 1) N K N
  obtain ⟨f1, f2, -, -⟩ := mg_facts (T.setVm vm₁) (ca 5) (ca 1) N K N
  have hold : ∀ a, a < T.heap.size → (mgS (T.setVm vm₁) (ca 5) (ca 1) N K N).heap[a]? = T.heap[a]? := fun a ha => mg_old (T.setVm vm₁) (ca 5) (ca 1) N K ha N
  have hrow : ∀ j, j < N → (mgS (T.setVm vm₁) (ca 5) (ca 1) N K N).heap[T.heap.size + 1 + j]? = some (mgI (ca 1) K) := fun j hj => mg_row (T.setVm vm₁) (ca 5) (ca 1) N K N j hj
  have f1 : (mgS (T.setVm vm₁) (ca 5) (ca 1) N K N).heap.size = T.heap.size + 1 + N := f1
  have f2 : (mgS (T.setVm vm₁) (ca 5) (ca 1) N K N).heap[T.heap.size]? = some (mgO (ca 5) N T.heap.size N) := f2
  rw [hT] at hold hrow f1 f2
  -- the new addresses
  have ha : ∀ k, k < n → (fun k => if k < n then ad k else H.size + (k - n)) k = ad k := fun k hk => if_pos hk
  have hb : ∀ k, ¬ k < n → (fun k => if k < n then ad k else H.size + (k - n)) k = H.size + (k - n) := fun k hk => if_neg hk
  generalize hadx : (fun k => if k < n then ad k else H.size + (k - n)) = adx at ha hb
  have hlow : ∀ (k9 : Nat) (x : Nat × va_E), (wlg ca adx (cs ++ ((5, N, [.ref (n + 1)], fun _ => 0) :: List.replicate N (1, K, [], fun _ => 0))))[k9]? = some x → k9 < n → (wlg ca ad cs)[k9]? = some x := fun k9 x hx h9 => by
    rw [← wlg_ok (ca := ca) o0 o1 ha]
    unfold wlg at hx ⊢
    rw [List.getElem?_mapIdx, List.getElem?_append_left (by omega)] at hx
    rw [List.getElem?_mapIdx]
    exact hx
  have hhigh : ∀ (k9 : Nat) (x : Nat × va_E), (wlg ca adx (cs ++ ((5, N, [.ref (n + 1)], fun _ => 0) :: List.replicate N (1, K, [], fun _ => 0))))[k9]? = some x → ¬ k9 < n → x.1 = H.size + (k9 - n) ∧ k9 - n ≤ N ∧ va_at D vwCl x (mgS (T.setVm vm₁) (ca 5) (ca 1) N K N).heap := fun k9 x hx h9 => by
    unfold wlg at hx
    rw [List.getElem?_mapIdx, List.getElem?_append_right (by omega)] at hx
    obtain ⟨j, rfl⟩ : ∃ j, k9 = n + j := ⟨k9 - n, by omega⟩
    rw [show n + j - cs.length = j by omega] at hx
    rw [show n + j - n = j by omega]
    cases j with
    | zero =>
      cases hx
      refine ⟨by rw [hb _ h9]; simp, Nat.zero_le _, ?_⟩
      show (mgS (T.setVm vm₁) (ca 5) (ca 1) N K N).heap[adx (n + 0)]? = some (vp_cell (ca 5) (N, _))
      rw [hb _ h9, show H.size + (n + 0 - n) = H.size by omega, f2, vp_cell_q]
      unfold mgO
      refine congrArg (fun z => some (arrV (ca 5) N z)) (funext fun j => ?_)
      by_cases hj : j < N
      · show va_rf (if j < N then some (H.size + 1 + j) else none) = va_rf (if j < N then some (adx (n + 1 + j)) else none)
        rw [if_pos hj, if_pos hj, hb (n + 1 + j) (by omega)]
        congr 2
        omega
      · show va_rf (if j < N then some (H.size + 1 + j) else none) = va_rf (if j < N then some (adx (n + 1 + j)) else none)
        rw [if_neg hj, if_neg hj]
    | succ j =>
      rw [List.getElem?_cons_succ] at hx
      by_cases hj : j < N
      · rw [List.getElem?_replicate, if_pos hj] at hx
        cases hx
        refine ⟨by show adx (n + (j + 1)) = _; rw [hb _ h9]; omega, hj, ?_⟩
        show (mgS (T.setVm vm₁) (ca 5) (ca 1) N K N).heap[adx (n + (j + 1))]? = some (vp_cell (ca 1) (K, _))
        rw [hb _ h9, show H.size + (n + (j + 1) - n) = H.size + 1 + j by omega, hrow j hj]
        rfl
      · rw [List.getElem?_replicate, if_neg hj] at hx
        cases hx
  have hP1 : va_P D vwCl (wlg ca adx (cs ++ ((5, N, [.ref (n + 1)], fun _ => 0) :: List.replicate N (1, K, [], fun _ => 0)))) (mgS (T.setVm vm₁) (ca 5) (ca 1) N K N).heap := fun k9 x hx => by
    by_cases h9 : k9 < n
    · have hx0 := hlow k9 x hx h9
      exact (hP k9 x hx0).kept (hold _ ((hP k9 x hx0).lt))
    · exact (hhigh k9 x hx h9).2.2
  have hD1 : va_D A (wlg ca adx (cs ++ ((5, N, [.ref (n + 1)], fun _ => 0) :: List.replicate N (1, K, [], fun _ => 0)))) := by
    refine ⟨fun i j x y hi hj hxy => ?_, fun k9 x hx => ?_⟩
    · by_cases h1 : i < n <;> by_cases h2 : j < n
      · exact hD.1 i j x y (hlow i x hi h1) (hlow j y hj h2) hxy
      · have a1 := (hP i x (hlow i x hi h1)).lt
        have a2 := (hhigh j y hj h2).1
        omega
      · have a1 := (hP j y (hlow j y hj h2)).lt
        have a2 := (hhigh i x hi h1).1
        omega
      · have a1 := (hhigh i x hi h1).1
        have a2 := (hhigh j y hj h2).1
        omega
    · by_cases h9 : k9 < n
      · exact hD.2 k9 x (hlow k9 x hx h9)
      · have a1 := (hhigh k9 x hx h9).1
        exact hA _ (by have := hS.1; omega)
  have hS1 : va_S A s.heap (mgS (T.setVm vm₁) (ca 5) (ca 1) N K N).heap (locs ++ (List.range N).map fun j => ⟨(T.setVm vm₁).heap.size, j⟩) := ⟨by have := hS.1; omega, fun q h1 h2 => (hold q (Nat.lt_of_lt_of_le h1 hS.1)).trans (hS.2.1 q h1 h2), fun q hq => by
    rcases List.mem_append.mp hq with h | h
    · exact hS.2.2 q h
    · obtain ⟨j, -, rfl⟩ := List.mem_map.mp h
      show A T.heap.size
      rw [hT]
      exact hA _ hS.1⟩
  have e2 : (Value.ref n :: st).map (tv adx) = .ref T.heap.size :: st.map (tv ad) := by
    rw [List.map_cons, st_ok o3 ha, hT]
    show Value.ref (adx n) :: _ = _
    rw [hb n (Nat.lt_irrefl n), Nat.sub_self]
    rfl
  have hfin := k p l e s m args below meth c D ca adx A _ _ ls Z C hI hK hP1 hD1 hS1 hA (by rw [lvL_ok ha 0 o2]; exact hl) (fun ad' H' locs' pc' ls' hag => hR ad' H' locs' pc' ls' (fun k hk => (hag k (by simp; omega)).trans (ha k (by omega))))
  rw [e2] at hfin
  obtain ⟨t, a1, b1⟩ := hfin _ rfl XF
  refine ⟨t, ?_, b1⟩
  have hl1 : ¬ i1.toNatClampNeg > e.platform.arrayLengthLimit := by rw [Launch.admits_arrayLengthLimit X.admits]; omega
  have hh1 : ¬ i1.toNatClampNeg * componentBytes (.array .int) > e.platform.maxHeapBytes := by
    rw [Launch.admits_maxHeapBytes X.admits]
    show ¬ i1.toNatClampNeg * 4 > 536870912
    omega
  have hl2 : ¬ k1.toNatClampNeg > e.platform.arrayLengthLimit := by rw [Launch.admits_arrayLengthLimit X.admits]; omega
  have hh2 : ¬ k1.toNatClampNeg * componentBytes .int > e.platform.maxHeapBytes := by
    rw [Launch.admits_maxHeapBytes X.admits]
    show ¬ k1.toNatClampNeg * 4 > 536870912
    omega
  have hdg : decode c.code pc = .ok (.multianewarray index 2, 4) := by rw [C.2.1]; exact hd
  have hexec := C.1
  show Steps p.tables e below (T.setTop (F0 m pc ls (.int k1 :: .int i1 :: st.map (tv ad)))) t
  generalize hg : F0 m pc ls (.int k1 :: .int i1 :: st.map (tv ad)) = g
  have hgm : g.method = m := by rw [← hg]
  have hgp : g.pc = pc := by rw [← hg]
  have hgs : g.stack = .int k1 :: .int i1 :: st.map (tv ad) := by rw [← hg]
  have hgt : F0 m (pc + 4) ls (.ref T.heap.size :: st.map (tv ad)) = { g with pc := g.pc + 4, stack := .ref T.heap.size :: st.map (tv ad) } := by rw [← hg]
  rw [hgt] at a1
  rw [← hgp] at hdg
  clear hgt hg hgp
  subst hgm
  jvm_step X.here [hexec, hdg]
  simp only [multianewarray.sem, wp_bind', W.resolveClassAt_links (State.method?_setTop g X.here.top) hg₁]
  rw [W.popN, if_neg (by decide)]
  refine ⟨g, State.topJava?_setTop' (s := T.setVm vm₁) g X.here.top, [.int i1, .int k1], st.map (tv ad), rfl, hgs, ?_⟩
  simp only [List.mapM_cons, List.mapM_nil, wp_bind', wp_pure']
  refine mg_wp2 (k := kA₁) (kc := kC₁) (cI := ca 1) (cc := cc9) hkA₁ hkindA₁ hkC₁ hkindC₁ hn hk hl1 hh1 hl2 hh2 (by rw [hN]; show T.heap.size + 1 + _ ≤ _; omega) (by rw [hN, hK1]; show T.slotsUsed + _ + _ ≤ _; omega) (fun d' acts' => ?_)
  rw [hN, hK1]
  have eS : ((T.setTop g).setVm vm₁).setTop { g with stack := st.map (tv ad) } = (T.setVm vm₁).setTop { g with stack := st.map (tv ad) } := by
    show ((T.setVm vm₁).setTop g).setTop _ = _
    rw [State.setTop_setTop]
  rw [eS, mg_top]
  simp only [wp_bind', W.mark, W.pushRef, State.topJava?_setTop' _ XF.here.top, Option.some.injEq, exists_eq_left', State.setTop_setTop, State.heap_setTop]
  intro acts
  simp [jvm, XF.here.top]
  exact a1
end JG
