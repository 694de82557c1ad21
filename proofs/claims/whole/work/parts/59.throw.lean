abbrev NSE : String := "java/util/NoSuchElementException"
abbrev RTE : String := "java/lang/RuntimeException"
abbrev EXC : String := "java/lang/Exception"
/-- NoSuchElementException(String): its call of RuntimeException's has index 13, so the library's chain (all at 7) begins one class higher -/
def x13 : ByteArray := ⟨#[0x2a, 0x2b, 0xb7, 0x00, 0x0d, 0xb1]⟩
theorem x13_0 : decode x13 0 = .ok (.aload_n 0, 1) := by decide +kernel
theorem x13_1 : decode x13 1 = .ok (.aload_n 1, 1) := by decide +kernel
theorem x13_2 : decode x13 2 = .ok (.invokespecial 13, 3) := by decide +kernel
theorem x13_5 : decode x13 5 = .ok (.return_, 1) := by decide +kernel
def xAr : List Cond := [.methodLink RX11 158 (Bundle.initS NSE), .instantiable NSE 6, .castable NSE NSE, .selects NSE Bundle.tFill0 Bundle.tFill0, .selects NSE Bundle.tFill Bundle.tFill,
   .lays NSE Bundle.tN "cause" "Ljava/lang/Throwable;", .lays NSE Bundle.tN "stackTrace" Bundle.steD, .lays NSE Bundle.tN "suppressedExceptions" Bundle.listD, .lays NSE Bundle.tN "detailMessage" "Ljava/lang/String;",
   .isRef (.static Bundle.tN "UNASSIGNED_STACK" Bundle.steD), .isRef (.static Bundle.tN "SUPPRESSED_SENTINEL" Bundle.listD),
   .fieldLink Bundle.tN 198 Bundle.tN "backtrace" "Ljava/lang/Object;", .lays Bundle.tN Bundle.tN "backtrace" "Ljava/lang/Object;", .lays NSE Bundle.tN "backtrace" "Ljava/lang/Object;"]
def xAt : List Cond := Bundle.throwableAtoms ++ (Bundle.throwableSAtoms ++ (Bundle.passSAtoms NSE RTE 13 x13 ++ (Bundle.chainSAtoms RTE [EXC] ++ xAr)))
theorem xAt_1 {w : Cond} (h : w ∈ Bundle.throwableAtoms) : w ∈ xAt := List.mem_append_left _ h
theorem xAt_2 {w : Cond} (h : w ∈ Bundle.throwableSAtoms) : w ∈ xAt := List.mem_append_right _ (List.mem_append_left _ h)
theorem xAt_3 {w : Cond} (h : w ∈ Bundle.passSAtoms NSE RTE 13 x13) : w ∈ xAt := List.mem_append_right _ (List.mem_append_right _ (List.mem_append_left _ h))
theorem xAt_4 {w : Cond} (h : w ∈ Bundle.chainSAtoms RTE [EXC]) : w ∈ xAt := List.mem_append_right _ (List.mem_append_right _ (List.mem_append_right _ (List.mem_append_left _ h)))
theorem xAt_5 {w : Cond} (h : w ∈ xAr) : w ∈ xAt := List.mem_append_right _ (List.mem_append_right _ (List.mem_append_right _ (List.mem_append_right _ h)))
theorem xFit : Bundle.fit NSE = true ∧ Bundle.fit RTE = true ∧ ∀ n ∈ [EXC], Bundle.fit n = true := by decide +kernel
section XC
variable {p : Program} {l : Launch} {e : Env} {R : Room} {s : State} {m₀ : MethodId} {args : Array Value} {below : List Frame} {meth : Method} {c : Code} {W : State} {locs : List Loc} {cells slots : Nat}
set_option maxHeartbeats 2000000 in
theorem xs_ctor (X : Stand p l e R s m₀ args below meth c W locs cells slots) (hexec : p.tables.exec = Jvm.exec) (htr : e.platform.stackTraces = false) (hown : s.vm.findClass RX11 = some m₀.cls) (h : ∀ a ∈ xAt, a.before args s = true)
    (hlocs : ∀ x ∈ locs, ∀ cell, s.heap[x.base]? = some cell → cell.vm.isStatics = false)
    {a : Addr} {cX : ClassId} {kX : Class} (hfoundX : s.vm.findClass NSE = some cX) (hkX : s.vm.classes[cX]? = some kX) (hcell : W.heap[a]? = some (freshCell cX kX)) (hnew : s.heap.size ≤ a)
    {msg : Value} (hmsg : msg.isRef = true)
    {g : JFrame} (hg : g.method = m₀) (hsize : g.locals.size = c.maxLocals) (hlocked : g.locked = none) (hentered : g.entered = []) {rest : List Value} (hstack : g.stack = msg :: .ref a :: .ref a :: rest)
    (hd6 : decode c.code g.pc = .ok (.invokespecial 158, 3)) (hd9 : decode c.code (g.pc + 3) = .ok (.athrow, 1)) (hout : ∀ x ∈ c.exceptionTable.toList, covers x (g.pc + 3) = false)
    (hRframes : 2 + 3 < R.frames) (hRlocals : 2 * g.monitorRoom + ((Value.ref a :: rest).map fun v => v.category).sum + (13 * (2 + 1) + 42) ≤ R.locals) (hlocks : meth.locks = false) :
    ∃ U : State, Steps p.tables e below (W.setTop g) U ∧ U.status = .running ∧ Ended U below (.threw a) ∧ s.WarmedH U.vm ∧ s.sameButNew ({ U with vm := s.vm } : State) locs cells slots ∧
      ∃ ce : Cell, U.heap[a]? = some ce ∧ s.vm.findClass NSE = some ce.cls ∧ ce.vm = .none := by
  have howns : e.platform.frameOwnsMonitors = true := by rw [X.admits.platform]
  have hfin : e.platform.finalization = false := by rw [X.admits.platform]
  have hpl : e.platform.magicAccessors = ({} : Platform).magicAccessors := by rw [X.admits.platform]
  have a' : ∀ x, x ∈ xAt → x.holds args s none s [] = true := fun x hx => h x hx
  obtain ⟨T, Z0, L, -, Y⟩ := ThrowableC.of_atoms (args := args) howns hfin hpl (fun x hx => h x (xAt_1 hx))
  obtain ⟨Z, M, LZ, LM, hnZ⟩ := Init0T.ofS_atoms (args := args) hpl L Y (fun x hx => h x (xAt_2 hx))
  obtain ⟨P1, L1, hP1m, hsup1⟩ := PassC.ofS_atoms (args := args) (s := s) hpl (X := NSE) (Y := RTE) (Bundle.fit_spec xFit.1).1 (Bundle.fit_spec xFit.2.1).2 x13_0 x13_1 x13_2 x13_5 (fun x hx => h x (xAt_3 hx))
  obtain ⟨P2, Ps, hlen, L2, hL, hP2m, hlink2, hlink⟩ := Bundle.chainS (args := args) hpl hnZ [EXC] RTE xFit.2.1 xFit.2.2 (fun x hx => h x (xAt_4 hx))
  have hlink1 : P1.sup = P2.m := Option.some.inj (hsup1.symm.trans hP2m)
  have hfound : s.vm.findClass NSE = some P1.m.cls := findClass_of_methodNamed hP1m
  cases Option.some.inj (hfoundX.symm.trans hfound)
  obtain ⟨c1, kX', hc1, hk, hord, -, -, hn6⟩ := Cond.instantiable_spec (a' (.instantiable NSE 6) (xAt_5 (by simp [xAr])))
  cases Option.some.inj (hc1.symm.trans hfound)
  cases Option.some.inj (hkX.symm.trans hk)
  have hsel0 : selectMethod e.platform s.vm P1.m.cls T.fill0 = .method T.fill0 := by
    obtain ⟨c2, r2, m2, q1, q2, q3, q4, -⟩ := Cond.selects_spec (a' (.selects NSE Bundle.tFill0 Bundle.tFill0) (xAt_5 (by simp [xAr])))
    cases Option.some.inj (q1.symm.trans hfound)
    cases Option.some.inj (q2.symm.trans (State.methodFound?_of_named Y.fill0 (by decide)))
    cases Option.some.inj (q3.symm.trans Y.fill0)
    rw [Launch.admits_selectMethod X.admits]
    exact q4
  have hselF : selectMethod e.platform s.vm P1.m.cls T.fill = .method T.fill := by
    obtain ⟨c2, r2, m2, q1, q2, q3, q4, -⟩ := Cond.selects_spec (a' (.selects NSE Bundle.tFill Bundle.tFill) (xAt_5 (by simp [xAr])))
    cases Option.some.inj (q1.symm.trans hfound)
    cases Option.some.inj (q2.symm.trans (State.methodFound?_of_named Y.fill (by decide)))
    cases Option.some.inj (q3.symm.trans Y.fill)
    rw [Launch.admits_selectMethod X.admits]
    exact q4
  obtain ⟨cellS0, hcS0, hiss⟩ := Y.statics
  obtain ⟨u0, hu0⟩ := Cond.staticRefV Y.unassigned L.unassignedStatic L.statics hcS0 hiss (a' (.isRef (.static Bundle.tN "UNASSIGNED_STACK" Bundle.steD)) (xAt_5 (by simp [xAr])))
  obtain ⟨sen, hsen⟩ := Cond.staticRefV Y.sentinel L.sentinelStatic L.statics hcS0 hiss (a' (.isRef (.static Bundle.tN "SUPPRESSED_SENTINEL" Bundle.listD)) (xAt_5 (by simp [xAr])))
  obtain ⟨ci198, i198, fB, hk198, hg198, ha198, hsB, -, hnB, htB, hffB⟩ := Cond.ownField (t := .object "java/lang/Object") Y.found L.cls (by decide +kernel) (a' (.fieldLink Bundle.tN 198 Bundle.tN "backtrace" "Ljava/lang/Object;") (xAt_5 (by simp [xAr]))) (a' (.lays Bundle.tN Bundle.tN "backtrace" "Ljava/lang/Object;") (xAt_5 (by simp [xAr]))) e.platform hpl
  obtain ⟨cellS, hcS', heS, -, hkeep⟩ := X.same.2.2.2.2.2 T.aS cellS0 hcS0
  have hcellS : W.heap[T.aS]? = some cellS := hcS'
  have hout' : ∀ i, (⟨T.aS, i⟩ : Loc) ∉ locs := fun i hmem => by
    have := hlocs _ hmem cellS0 hcS0
    rw [hiss] at this
    cases this
  have hknownS : cellS.vm ≠ .unknown := by
    rw [heS]
    intro hu
    rw [show cellS0.vm = .unknown from hu] at hiss
    cases hiss
  have hneS : T.aS ≠ a := Nat.ne_of_lt (Nat.lt_of_lt_of_le (Array.getElem?_eq_some_iff.mp hcS0).1 hnew)
  obtain ⟨iM, hffM⟩ := Y.msg
  obtain ⟨tyC, dC, hdC, hdnC⟩ := Cond.laysAt hfound hk Y.cause (a' (.lays NSE Bundle.tN "cause" "Ljava/lang/Throwable;") (xAt_5 (by simp [xAr])))
  obtain ⟨tyS, dS, hdS, hdnS⟩ := Cond.laysAt hfound hk Y.stack (a' (.lays NSE Bundle.tN "stackTrace" Bundle.steD) (xAt_5 (by simp [xAr])))
  obtain ⟨tyP, dP, hdP, hdnP⟩ := Cond.laysAt hfound hk Y.supp (a' (.lays NSE Bundle.tN "suppressedExceptions" Bundle.listD) (xAt_5 (by simp [xAr])))
  obtain ⟨tyM, dM, hdM, hdnM⟩ := Cond.laysAt hfound hk hffM (a' (.lays NSE Bundle.tN "detailMessage" "Ljava/lang/String;") (xAt_5 (by simp [xAr])))
  obtain ⟨tyB, dB, hdB, hdnB⟩ := Cond.laysAt hfound hk hffB (a' (.lays NSE Bundle.tN "backtrace" "Ljava/lang/Object;") (xAt_5 (by simp [xAr])))
  have bC := Cond.laysApart hdB hdC hdnB hdnC (by rw [hnB, Y.causeName]; decide)
  have bS := Cond.laysApart hdB hdS hdnB hdnS (by rw [hnB, Y.stackName]; decide)
  have bP := Cond.laysApart hdB hdP hdnB hdnP (by rw [hnB, Y.suppName]; decide)
  have hskip : SkipFacts T e.platform s (fun u => u) u0 ((preparedCellV T.toThrowableT (freshCell P1.m.cls kX) a u0 sen).withEntry W.cur) :=
    ⟨{ ci198 := ci198, i198 := i198, fBack := fB }, ⟨hk198, hg198, ha198, hsB⟩, by
      have := fresh_default (c := P1.m.cls) tyB
      rw [htB] at this
      simpa [preparedCellV, Cell.setSlot, Cell.withEntry, Array.getElem?_setIfInBounds, bC, bS, bP, bC.symm, bS.symm, bP.symm, defaultValue] using this, fun _ _ => rfl⟩
  obtain ⟨tm, methC, cdC, kC, vm₁, hnC, -, -, -, -, -, -, -, hW₁, st1⟩ := Steps.initColdS (tb := p.tables) (e := e) (below := below) (s := s) (U := W) X.here hexec X.warmed hpl hown (t := Bundle.initS NSE) rfl rfl (Bundle.fit_spec xFit.1).2
    (a' (.methodLink RX11 158 (Bundle.initS NSE)) (xAt_5 (by simp [xAr]))) (h (.instanceMethod (Bundle.initS NSE)) (xAt_3 (by simp [Bundle.passSAtoms]))) (bytes := x13) (maxL := 2) (h (.code (Bundle.initS NSE) x13 2 none) (xAt_3 (by simp [Bundle.passSAtoms])))
    (f := g) hg (a := a) (msg := msg) (rest := .ref a :: rest) hstack hd6
  cases Option.some.inj (hnC.symm.trans hP1m)
  have X₁ := X.noted hW₁
  obtain ⟨vm₂, X₂, st2⟩ := X₁.ctorMessageOffV hexec (g := { g with stack := .ref a :: rest }) hg hsize T L Z LZ M LM (P1 :: P2 :: Ps)
    (fun P hP => by
      rcases List.mem_cons.mp hP with rfl | hP
      · exact L1
      · rcases List.mem_cons.mp hP with rfl | hP
        · exact L2
        · exact hL P hP) ⟨hlink1, hlink2, hlink⟩ (u0 := u0) (sen := sen) (self := a) hmsg (cell := freshCell P1.m.cls kX) (cellS := cellS)
    hcell (fun _ => by simp) (by simp) rfl rfl hsel0 hselF hcellS hneS hknownS (by rw [hkeep _ (hout' _)]; exact hu0) (by rw [hkeep _ (hout' _)]; exact hsen)
    (Takes.of_laid hk hord tyC (by rw [Y.causeType]; rfl)) (Takes.of_laid hk hord tyS (by rw [Y.stackType]; exact fits_refV_array _ u0)) (Takes.of_laid hk hord tyP (by rw [Y.suppType]; exact fits_refV_object _ sen))
    (Takes.of_laid hk hord tyM (by rw [Y.msgType]; exact fits_refV_object _ ⟨msg, hmsg⟩)) Y.objLocals hskip htr [] hd6
    (by have : Ps.length = 1 := hlen; simp only [List.length_cons]; omega) (by have : Ps.length = 1 := hlen; simp only [List.length_cons, this]; exact hRlocals)
  obtain ⟨hwalk, hrun, hended, hWU, hsame⟩ := X₂.athrowLeaves hexec (g := { g with stack := .ref a :: rest, pc := g.pc + 3 }) hg hlocked hentered hout (a := a) (rest := rest) rfl hd9
  have hlt : a < ((W.setVm vm₁).setVm vm₂).heap.size := (Array.getElem?_eq_some_iff.mp hcell).1
  have hU := heapAt_setCell_self (s := (W.setVm vm₁).setVm vm₂) (plainBareV T.toThrowableT (freshCell P1.m.cls kX) a u0 sen msg) hlt
  refine ⟨_, st1 _ (fun acts => ?_), hrun, hended, hWU, hsame.weaken (fun y hy hlt' => ?_) (Nat.le_refl _) (Nat.le_refl _), _, hU, hfound, rfl⟩
  · rw [doInvoke_state]
    exact st2 _ hwalk
  · rcases List.mem_append.mp hy with h1 | h1
    · exact h1
    · exfalso
      have hb : y.base = a := by
        simp only [List.mem_cons, List.not_mem_nil, or_false] at h1
        rcases h1 with rfl | rfl | rfl | rfl | rfl <;> rfl
      rw [hb] at hlt'
      exact Nat.not_lt.mpr hnew hlt'
end XC
section Ends
variable {p : Program} {l : Launch} {e : Env} {R : Room} {s : State} {m : MethodId} {args : Array Value} {below : List Frame} {meth : Method} {c : Code} {H : Heap} {locs : List Loc} {cells slots : Nat} {Q : State → Prop}
variable {mc ms : Nat} {free : Addr → Prop} {A0 A1 : Nat → Prop} {H0 : Heap} {a : Array Value} {ls : Array Slot} {st0 rest : List Value}
variable {Qc : Array Value → State → Outcome → State → Prop} {XC : String → State → State → Prop}
theorem xs_throwS {cc : ByteArray} {pc : Nat} (hexec : p.tables.exec = Jvm.exec) (hb : c.code = cc) (hl : l.stackTraces = false) {text : String} {is mc ms sa : Nat} {A : Nat → Prop}
    (hown : s.vm.findClass RX11 = some m.cls) 
    (hk : (Cond.classLink RX11 154 NSE).before args s = true) (hini : (Cond.initialized NSE).before args s = true) (hstr : vk_R RX11 is text sa s) (hat : ∀ w ∈ xAt.filter vx_no, w.before args s = true)
    (hgood : ∀ w ∈ Cond.classLink RX11 154 NSE :: Cond.initialized NSE :: xAt.filter vx_no, vx_ot w = true)
    (hU : vx_Zq Bundle.tN "UNASSIGNED_STACK" Bundle.steD A s s.heap) (hN : vx_Zq Bundle.tN "SUPPRESSED_SENTINEL" Bundle.listD A s s.heap) (hS : va_S A s.heap H locs) (hsize : ls.size = c.maxLocals)
    (d0 : decode cc pc = .ok (.new 154, 3)) (d3 : decode cc (pc + 3) = .ok (.dup, 1)) (d4 : decode cc (pc + 4) = .ok (.ldc is, 2)) (d6 : decode cc (pc + 6) = .ok (.invokespecial 158, 3)) (d9 : decode cc (pc + 9) = .ok (.athrow, 1))
    (hout : ∀ x ∈ c.exceptionTable.toList, covers x (pc + 9) = false)
    (hRframes : 2 + 3 < R.frames) (hRlocals : (rest.map fun v => v.category).sum + (13 * (2 + 1) + 43) ≤ R.locals) (hRcells : cells + 1 ≤ R.cells) (hRslots : slots + 6 ≤ R.slots) (hlocks : meth.locks = false)
    (hx : ∀ t : State, s.vm.Alike t.vm → H.size ≤ t.heap.size → (∀ q : Nat, q < H.size → t.heap[q]? = H[q]?) → XC NSE s t)
    (hf : ∀ z ∈ locs, free z.base) (hc : cells + 1 ≤ mc) (hs : slots + 6 ≤ ms) :
    W p l e R s m args below meth c H locs cells slots (vx_MQ below Qc XC args s mc ms free) (F0 m pc ls rest) := by
  intro T hT X
  have htr : e.platform.stackTraces = false := (show e.platform.stackTraces = l.stackTraces by rw [X.admits.platform]).trans hl
  have Y := vx_rebase X (R' := { frames := R.frames, locals := R.locals, cells := 1, slots := 6 }) (Nat.le_refl _) (Nat.le_refl _) hRcells hRslots
  obtain ⟨s', hA⟩ : ∃ z, z = (T.setVm s.vm).setFrames (.invoking m args :: below) := ⟨_, rfl⟩
  rw [← hA] at Y
  have hvm : s'.vm = s.vm := by rw [hA]; rfl
  have hhp : s'.heap = H := by rw [hA]; exact hT
  have hW0 : s.WarmedH s'.vm := by rw [hvm]; exact State.WarmedH.refl s
  have hat' : ∀ w ∈ xAt.filter vx_no, w.before args s' = true := fun w hw => vx_ot_at hW0 hvm.symm (hgood w (List.mem_cons_of_mem _ (List.mem_cons_of_mem _ hw))) (hat w hw)
  have hk' : (Cond.classLink RX11 154 NSE).before args s' = true := vx_ot_at hW0 hvm.symm (hgood _ List.mem_cons_self) hk
  have hini' : (Cond.initialized NSE).before args s' = true := vx_ot_at hW0 hvm.symm (hgood _ (List.mem_cons_of_mem _ List.mem_cons_self)) hini
  have hU' : vx_Zq Bundle.tN "UNASSIGNED_STACK" Bundle.steD A s' s'.heap := by rw [hhp]; exact vx_Zq.moved hW0.alike (hU.kept hS.2.1)
  have hN' : vx_Zq Bundle.tN "SUPPRESSED_SENTINEL" Bundle.listD A s' s'.heap := by rw [hhp]; exact vx_Zq.moved hW0.alike (hN.kept hS.2.1)
  have h : ∀ w ∈ xAt, w.before args s' = true := vx_own hat' (vx_isRefq hU'.1) (vx_isRefq hN'.1) hU'.2.word hN'.2.word
  have hown' : s'.vm.findClass RX11 = some m.cls := by rw [hvm]; exact hown
  have hins : (Cond.instantiable NSE 6).before args s' = true := h _ (xAt_5 (by simp [xAr]))
  obtain ⟨vm₁, cX, kX, hfX, hkX, -, -, X₁, st1⟩ := Y.newCold hexec (own := RX11) (C := NSE) (index := 154) (n := 6) hown' hk' hins hini'
    (g := F0 m pc ls rest) rfl (by rw [hb]; exact d0) (Nat.le_refl _) (Nat.le_refl _)
  generalize hT1 : (T.setVm vm₁).pushCell { cls := cX, slots := kX.instanceTypes.map defaultValue, vm := .none } = T1 at X₁ st1
  have hcat : (Value.ref T.heap.size).category = 1 := rfl
  have hcellA : T1.heap[T.heap.size]? = some (freshCell cX kX) := by rw [← hT1]; exact State.heap_pushCell_size _ _
  have d3' : decode c.code (pc + 3) = .ok (.dup, 1) := by rw [hb]; exact d3
  have d4' : decode c.code (pc + 4) = .ok (.ldc is, 2) := by rw [hb]; exact d4
  have hstr' : vk_R RX11 is text sa s' := vk_R.warm hW0 hstr
  obtain ⟨U, hsteps, hrun, hend, hW, hsame, ce, hce, hO⟩ := xs_ctor X₁ hexec htr hown' h (fun x hx => nomatch hx) hfX hkX hcellA (by rw [hhp, hT]; exact Nat.le_refl _) (msg := .ref sa) rfl
    (g := { method := m, pc := pc + 6, locals := ls, stack := .ref sa :: .ref T.heap.size :: .ref T.heap.size :: rest, locked := none }) rfl hsize rfl rfl (rest := rest) rfl
    (by rw [hb]; exact d6) (by rw [hb]; exact d9) hout hRframes (by simp only [List.map_cons, List.sum_cons, hcat]; omega) hlocks
  obtain ⟨f1, f2⟩ := vx_frame hsame
  rw [hhp] at f1 f2
  have hWs : s.WarmedH U.vm := State.WarmedH.trans hW0 hW
  have hcl : s.vm.findClass NSE = some ce.cls := by
    have h9 := hO.1
    rw [hvm] at h9
    exact h9
  have hall : s.sameButNew ({ U with vm := s.vm } : State) locs mc ms := by
    subst hA
    obtain ⟨e1, e2⟩ := hsame
    rw [State.setFrames_setFrames] at e1
    have h2 : (T.setVm s.vm).sameButNew ({ U with vm := s.vm } : State) [] (0 + 1) (0 + 6) := ⟨e1, e2⟩
    have h3 := X.same.trans h2
    rw [List.append_nil] at h3
    exact h3.mono hc hs
  refine ⟨U, ?_, .threw T.heap.size, hrun, hend, Or.inr ⟨T.heap.size, rfl, NSE, ce, locs, hx U hWs.alike f1 (fun q hq => f2 q hq (fun z hz => nomatch hz)), hce, hO.2, hcl, hWs, hall, hf⟩⟩
  refine st1 _ ?_
  show Steps p.tables e below (T1.setTop { method := m, pc := pc + 3, locals := ls, stack := .ref T.heap.size :: rest, locked := none }) _
  jvm_step X₁.here [X₁.here.top, hexec, d3', Value.category]
  exact X₁.ldcString hexec (own := RX11) (text := text) (index := is) (a := sa) hown' hstr'.1 hstr'.2
    (g := { method := m, pc := pc + 4, locals := ls, stack := .ref T.heap.size :: .ref T.heap.size :: rest, locked := none }) rfl d4' _ hsteps
/-- 'throw new E("text")', the text by a wide index -/
theorem xs_throwSW {cc : ByteArray} {pc : Nat} (hexec : p.tables.exec = Jvm.exec) (hb : c.code = cc) (hl : l.stackTraces = false) {text : String} {is mc ms sa : Nat} {A : Nat → Prop}
    (hown : s.vm.findClass RX11 = some m.cls) 
    (hk : (Cond.classLink RX11 154 NSE).before args s = true) (hini : (Cond.initialized NSE).before args s = true) (hstr : vk_R RX11 is text sa s) (hat : ∀ w ∈ xAt.filter vx_no, w.before args s = true)
    (hgood : ∀ w ∈ Cond.classLink RX11 154 NSE :: Cond.initialized NSE :: xAt.filter vx_no, vx_ot w = true)
    (hU : vx_Zq Bundle.tN "UNASSIGNED_STACK" Bundle.steD A s s.heap) (hN : vx_Zq Bundle.tN "SUPPRESSED_SENTINEL" Bundle.listD A s s.heap) (hS : va_S A s.heap H locs) (hsize : ls.size = c.maxLocals)
    (d0 : decode cc pc = .ok (.new 154, 3)) (d3 : decode cc (pc + 3) = .ok (.dup, 1)) (d4 : decode cc (pc + 4) = .ok (.ldc_w is, 3)) (d7 : decode cc (pc + 7) = .ok (.invokespecial 158, 3)) (d10 : decode cc (pc + 10) = .ok (.athrow, 1))
    (hout : ∀ x ∈ c.exceptionTable.toList, covers x (pc + 10) = false)
    (hRframes : 2 + 3 < R.frames) (hRlocals : (rest.map fun v => v.category).sum + (13 * (2 + 1) + 43) ≤ R.locals) (hRcells : cells + 1 ≤ R.cells) (hRslots : slots + 6 ≤ R.slots) (hlocks : meth.locks = false)
    (hx : ∀ t : State, s.vm.Alike t.vm → H.size ≤ t.heap.size → (∀ q : Nat, q < H.size → t.heap[q]? = H[q]?) → XC NSE s t)
    (hf : ∀ z ∈ locs, free z.base) (hc : cells + 1 ≤ mc) (hs : slots + 6 ≤ ms) :
    W p l e R s m args below meth c H locs cells slots (vx_MQ below Qc XC args s mc ms free) (F0 m pc ls rest) := by
  intro T hT X
  have htr : e.platform.stackTraces = false := (show e.platform.stackTraces = l.stackTraces by rw [X.admits.platform]).trans hl
  have Y := vx_rebase X (R' := { frames := R.frames, locals := R.locals, cells := 1, slots := 6 }) (Nat.le_refl _) (Nat.le_refl _) hRcells hRslots
  obtain ⟨s', hA⟩ : ∃ z, z = (T.setVm s.vm).setFrames (.invoking m args :: below) := ⟨_, rfl⟩
  rw [← hA] at Y
  have hvm : s'.vm = s.vm := by rw [hA]; rfl
  have hhp : s'.heap = H := by rw [hA]; exact hT
  have hW0 : s.WarmedH s'.vm := by rw [hvm]; exact State.WarmedH.refl s
  have hat' : ∀ w ∈ xAt.filter vx_no, w.before args s' = true := fun w hw => vx_ot_at hW0 hvm.symm (hgood w (List.mem_cons_of_mem _ (List.mem_cons_of_mem _ hw))) (hat w hw)
  have hk' : (Cond.classLink RX11 154 NSE).before args s' = true := vx_ot_at hW0 hvm.symm (hgood _ List.mem_cons_self) hk
  have hini' : (Cond.initialized NSE).before args s' = true := vx_ot_at hW0 hvm.symm (hgood _ (List.mem_cons_of_mem _ List.mem_cons_self)) hini
  have hU' : vx_Zq Bundle.tN "UNASSIGNED_STACK" Bundle.steD A s' s'.heap := by rw [hhp]; exact vx_Zq.moved hW0.alike (hU.kept hS.2.1)
  have hN' : vx_Zq Bundle.tN "SUPPRESSED_SENTINEL" Bundle.listD A s' s'.heap := by rw [hhp]; exact vx_Zq.moved hW0.alike (hN.kept hS.2.1)
  have h : ∀ w ∈ xAt, w.before args s' = true := vx_own hat' (vx_isRefq hU'.1) (vx_isRefq hN'.1) hU'.2.word hN'.2.word
  have hown' : s'.vm.findClass RX11 = some m.cls := by rw [hvm]; exact hown
  have hins : (Cond.instantiable NSE 6).before args s' = true := h _ (xAt_5 (by simp [xAr]))
  obtain ⟨vm₁, cX, kX, hfX, hkX, -, -, X₁, st1⟩ := Y.newCold hexec (own := RX11) (C := NSE) (index := 154) (n := 6) hown' hk' hins hini'
    (g := F0 m pc ls rest) rfl (by rw [hb]; exact d0) (Nat.le_refl _) (Nat.le_refl _)
  generalize hT1 : (T.setVm vm₁).pushCell { cls := cX, slots := kX.instanceTypes.map defaultValue, vm := .none } = T1 at X₁ st1
  have hcat : (Value.ref T.heap.size).category = 1 := rfl
  have hcellA : T1.heap[T.heap.size]? = some (freshCell cX kX) := by rw [← hT1]; exact State.heap_pushCell_size _ _
  have d3' : decode c.code (pc + 3) = .ok (.dup, 1) := by rw [hb]; exact d3
  have d4' : decode c.code (pc + 4) = .ok (.ldc_w is, 3) := by rw [hb]; exact d4
  have hstr' : vk_R RX11 is text sa s' := vk_R.warm hW0 hstr
  obtain ⟨U, hsteps, hrun, hend, hW, hsame, ce, hce, hO⟩ := xs_ctor X₁ hexec htr hown' h (fun x hx => nomatch hx) hfX hkX hcellA (by rw [hhp, hT]; exact Nat.le_refl _) (msg := .ref sa) rfl
    (g := { method := m, pc := pc + 7, locals := ls, stack := .ref sa :: .ref T.heap.size :: .ref T.heap.size :: rest, locked := none }) rfl hsize rfl rfl (rest := rest) rfl
    (by rw [hb]; exact d7) (by rw [hb]; exact d10) hout hRframes (by simp only [List.map_cons, List.sum_cons, hcat]; omega) hlocks
  obtain ⟨f1, f2⟩ := vx_frame hsame
  rw [hhp] at f1 f2
  have hWs : s.WarmedH U.vm := State.WarmedH.trans hW0 hW
  have hcl : s.vm.findClass NSE = some ce.cls := by
    have h9 := hO.1
    rw [hvm] at h9
    exact h9
  have hall : s.sameButNew ({ U with vm := s.vm } : State) locs mc ms := by
    subst hA
    obtain ⟨e1, e2⟩ := hsame
    rw [State.setFrames_setFrames] at e1
    have h2 : (T.setVm s.vm).sameButNew ({ U with vm := s.vm } : State) [] (0 + 1) (0 + 6) := ⟨e1, e2⟩
    have h3 := X.same.trans h2
    rw [List.append_nil] at h3
    exact h3.mono hc hs
  refine ⟨U, ?_, .threw T.heap.size, hrun, hend, Or.inr ⟨T.heap.size, rfl, NSE, ce, locs, hx U hWs.alike f1 (fun q hq => f2 q hq (fun z hz => nomatch hz)), hce, hO.2, hcl, hWs, hall, hf⟩⟩
  refine st1 _ ?_
  show Steps p.tables e below (T1.setTop { method := m, pc := pc + 3, locals := ls, stack := .ref T.heap.size :: rest, locked := none }) _
  jvm_step X₁.here [X₁.here.top, hexec, d3', Value.category]
  exact X₁.ldcStringW hexec (own := RX11) (text := text) (index := is) (a := sa) hown' hstr'.1 hstr'.2
    (g := { method := m, pc := pc + 4, locals := ls, stack := .ref T.heap.size :: .ref T.heap.size :: rest, locked := none }) rfl d4' _ hsteps
end Ends
def XBs : List Cond := [.castable NSE NSE, .declares (Bundle.initS RTE), .declares (Bundle.initS EXC), .declares (Bundle.initS Bundle.tN)]
theorem XB_warm {s U : State} (hW : s.WarmedH U.vm) (h : ∀ w ∈ XBs, va_Nw w s) : ∀ w ∈ XBs, va_Nw w U := by
  intro w hw
  have h1 := h w hw
  simp only [XBs, List.mem_cons, List.not_mem_nil, or_false] at hw
  rcases hw with rfl | rfl | rfl | rfl
  · exact va_Nw.warmC hW h1
  all_goals exact va_Nw.warmD hW h1
theorem XB_same {s U : State} (hv : s.vm = U.vm) (h : ∀ w ∈ XBs, va_Nw w s) : ∀ w ∈ XBs, va_Nw w U := by
  intro w hw
  have h1 := h w hw
  simp only [XBs, List.mem_cons, List.not_mem_nil, or_false] at hw
  rcases hw with rfl | rfl | rfl | rfl <;> exact va_Nw.same rfl hv h1
def XSs : List (Nat × String) := [(156, "no such load"), (170, "no such thing of a load"), (172, "no such depth"), (178, "neither moment nor list"), (223, "no such line"), (360, "nothing is told of that"), (458, "no such number in the row")]
/-- what a throw needs of the machine beside the tables' kept words -/
def XE (A : Nat → Prop) (U : State) (H : Heap) : Prop := (∀ w ∈ XBs, va_Nw w U) ∧ (∀ q ∈ XSs, ∃ sa, vk_R RX11 q.1 q.2 sa U) ∧ vx_Zq Bundle.tN "UNASSIGNED_STACK" Bundle.steD A U H ∧ vx_Zq Bundle.tN "SUPPRESSED_SENTINEL" Bundle.listD A U H
theorem XE.warm {A : Nat → Prop} {s U : State} {H : Heap} (hW : s.WarmedH U.vm) (h : XE A s H) : XE A U H := ⟨XB_warm hW h.1, fun q hq => by obtain ⟨sa, h1⟩ := h.2.1 q hq; exact ⟨sa, vk_R.warm hW h1⟩, h.2.2.1.moved hW.alike, h.2.2.2.moved hW.alike⟩
theorem XE.call {A : Nat → Prop} {U : State} {H : Heap} {g : JFrame} {mk : MethodId} {a : Array Value} (h : XE A U H) : XE A (U.calling g mk a) H := ⟨XB_same (s := U) (U := U.calling g mk a) (show U.vm = (U.calling g mk a).vm from rfl) h.1, fun q hq => by obtain ⟨sa, h1⟩ := h.2.1 q hq; exact ⟨sa, vk_R.same (show (U.calling g mk a).vm = U.vm from rfl) h1⟩, vx_Zq.moved (u := U) (U := U.calling g mk a) (Vm.Alike.refl U.vm) h.2.2.1, vx_Zq.moved (u := U) (U := U.calling g mk a) (Vm.Alike.refl U.vm) h.2.2.2⟩
theorem XE.kept {A : Nat → Prop} {U : State} {H H1 : Heap} (h : XE A U H) (hq : ∀ a : Nat, a < H.size → ¬ A a → H1[a]? = H[a]?) : XE A U H1 := ⟨h.1, h.2.1, h.2.2.1.kept hq, h.2.2.2.kept hq⟩
theorem XE.narrow {A B : Nat → Prop} {U : State} {H : Heap} (h : XE A U H) (hAB : ∀ q, B q → A q) : XE B U H := ⟨h.1, h.2.1, h.2.2.1.narrow hAB, h.2.2.2.narrow hAB⟩
set_option maxRecDepth 20000 in
theorem xg_1 : ∀ w ∈ (xAt.filter vx_no).filter goodWord, w ∈ lw_tbl := by decide +kernel
set_option maxRecDepth 20000 in
theorem xg_2 : ∀ w ∈ (xAt.filter vx_no).filter (fun w => !goodWord w), w ∈ XBs := by decide +kernel
set_option maxRecDepth 20000 in
theorem xg_3 : ∀ w ∈ Cond.classLink RX11 154 NSE :: Cond.initialized NSE :: xAt.filter vx_no, vx_ot w = true := by decide +kernel
theorem xg_4 : Cond.classLink RX11 154 NSE ∈ GW ∧ Cond.initialized NSE ∈ GW := ⟨gwt_6 33 (by decide +kernel) rfl, gwt_1 18 (by decide +kernel) rfl⟩
theorem xg_at {args : Array Value} {s : State} (hts : ∀ w ∈ GW, w.before args s = true) (hc : ∀ w ∈ XBs, va_Nw w s) : ∀ w ∈ xAt.filter vx_no, w.before args s = true :=
  vx_hat (B := XBs) (fun w hw => hts w (List.mem_filter.mpr ⟨xg_1 w hw, (List.mem_filter.mp hw).2⟩)) xg_2 (fun w hw => by
    have h1 := hc w hw
    simp only [XBs, List.mem_cons, List.not_mem_nil, or_false] at hw
    rcases hw with rfl | rfl | rfl | rfl <;> exact va_Nw.use rfl h1)
def rmX (d : Nat) : Room := { frames := d + 6, cells := 1, slots := 6, locals := 60 * (d + 2) }
/-- a throw: from h the method throws, with h0 -/
def Xn (y : MethodName) (cc : ByteArray) (nL : Nat) (ret : Option FieldType) (d : Nat) (as : List Value) (h h0 : HS) : Prop :=
  ∀ (l : Launch), l.stackTraces = false → ∀ (D : va_G) (ca ad : Nat → Nat), vx_Met l y (.code y cc nL ret :: GW) (rmX d) (va_Pc (as.map (tv ad)) (fun U => va_P D vwCl (wld skC ca ad h) U.heap ∧ KX D ca U ∧ va_D (fun _ => True) (wld skC ca ad h) ∧ XE (adA skC ad) U U.heap))
    (fun _ _ _ _ => False) (fun E st t => E = NSE ∧ va_P D vwCl (wld skC ca ad h0) t.heap ∧ va_F (adA skC ad) st t) 1 6 (adA skC ad)
theorem Xn_of {y : MethodName} {cc : ByteArray} {nL : Nat} {ret : Option FieldType} {d pcT is : Nat} {text : String} {as : List Value} {L : List (Option Value)} {h h0 : HS} (hy : plainName y.cls = true) (hyc : y.cls = RX11) (hlen : (lg_sl as).length ≤ nL) (hlen2 : ∀ ad : Nat → Nat, (lg_sl (as.map (tv ad))).length = (lg_sl as).length) (hL : lsub L (entL as)) (hx : (is, text) ∈ XSs)
    (d0 : decode cc pcT = .ok (.new 154, 3)) (d3 : decode cc (pcT + 3) = .ok (.dup, 1)) (dd : (decode cc (pcT + 4) = .ok (.ldc is, 2) ∧ decode cc (pcT + 6) = .ok (.invokespecial 158, 3) ∧ decode cc (pcT + 9) = .ok (.athrow, 1)) ∨ (decode cc (pcT + 4) = .ok (.ldc_w is, 3) ∧ decode cc (pcT + 7) = .ok (.invokespecial 158, 3) ∧ decode cc (pcT + 10) = .ok (.athrow, 1)))
    (hJ : Jx skC RX11 cc nL (some (.object "")) d (some (.ref pcT)) h0 0 L [] h) : Xn y cc nL ret d as h h0 := by
  intro l hl0 D ca ad
  refine vx_ofW (cc := cc) (maxL := nL) (ret := ret) hy rfl ?_
  intro p e s m args below meth c s₁ B hml htab hv
  obtain ⟨rfl, hP, hK, hD0, hXE⟩ := hv
  have hts : ∀ w ∈ GW, w.before ((as.map (tv ad)).toArray) s = true := fun w hw => atoms_spec (ws := .code y cc nL ret :: GW) B.pre w (List.mem_cons_of_mem _ hw)
  have hown : s.vm.findClass RX11 = some m.cls := by rw [← hyc]; exact findClass_of_methodNamed B.named
  have hlocks := B.notSynchronized
  have hD : va_D (adA skC ad) (wld skC ca ad h) := ⟨hD0.1, fun k q hk => by
    obtain ⟨r, h1, rfl⟩ := wld_inv hk
    exact ⟨k, (List.getElem?_eq_some_iff.mp h1).1, rfl⟩⟩
  have hl := lv_entry (as.map (tv ad)) (n := nL) (by rw [hlen2]; exact hlen)
  rw [← entL_args] at hl
  rw [lg_entry_eq]
  refine hJ p l e s m _ below meth c D ca ad (adA skC ad) s.heap [] _ _ _ (show d + 1 ≤ d + 6 by omega) (show 60 * (d + 1) ≤ 60 * (d + 2) by omega) ⟨B.exec, B.bytes, hml, hown, hts⟩ hK hP hD va_S.rf (lsub_has hL hl) ?_
  intro H' locs' pc' ls' st' hsz hP' hS' hI
  rcases hI with ⟨hr, -⟩ | ⟨hr, -⟩ | ⟨hr, -⟩ | ⟨hr, -⟩ | ⟨-, rfl, hpc⟩
  · cases hr
  · cases hr
  · cases hr
  · cases hr
  cases hpc
  obtain ⟨sa, hstr⟩ := hXE.2.1 _ hx
  have hxc : ∀ t : State, s.vm.Alike t.vm → H'.size ≤ t.heap.size → (∀ q : Nat, q < H'.size → t.heap[q]? = H'[q]?) → NSE = NSE ∧ va_P D vwCl (wld skC ca ad h0) t.heap ∧ va_F (adA skC ad) s t := fun t _ h1 h2 => ⟨rfl, hP'.kept (fun k x hx => h2 _ ((hP' k x hx).lt)), Nat.le_trans hS'.1 h1, fun q hq1 hq2 => (h2 q (Nat.lt_of_lt_of_le hq1 hS'.1)).trans (hS'.2.1 q hq1 hq2)⟩
  rcases dd with ⟨d4, d6, d9⟩ | ⟨d4, d7, d10⟩
  · exact xs_throwS (A := adA skC ad) B.exec B.bytes hl0 hown (hts _ xg_4.1) (hts _ xg_4.2) hstr (xg_at hts hXE.1) xg_3 hXE.2.2.1 hXE.2.2.2 hS' (hsz.trans hml.symm) d0 d3 d4 d6 d9 (fun x hx => (htab x hx).elim) (show 2 + 3 < d + 6 by omega) (show 0 + (13 * (2 + 1) + 43) ≤ 60 * (d + 2) by omega) (Nat.le_refl _) (Nat.le_refl _) hlocks hxc hS'.2.2 (Nat.le_refl _) (Nat.le_refl _)
  · exact xs_throwSW (A := adA skC ad) B.exec B.bytes hl0 hown (hts _ xg_4.1) (hts _ xg_4.2) hstr (xg_at hts hXE.1) xg_3 hXE.2.2.1 hXE.2.2.2 hS' (hsz.trans hml.symm) d0 d3 d4 d7 d10 (fun x hx => (htab x hx).elim) (show 2 + 3 < d + 6 by omega) (show 0 + (13 * (2 + 1) + 43) ≤ 60 * (d + 2) by omega) (Nat.le_refl _) (Nat.le_refl _) hlocks hxc hS'.2.2 (Nat.le_refl _) (Nat.le_refl _)
noncomputable def fX11_of_x11 (p1 : Int32) (p2 : Int32) (h : HS) : Option HS := bd (fX4_there p1 h) (fun r2 h1 => if r2 = 0 then (some h1) else (if p2 = (0 : Int32) then (ck (inb p1 15) (none)) else (if p2 = (1 : Int32) then (ck (inb p1 15) (none)) else (if p2 = (2 : Int32) then (ck (inb p1 15) (none)) else (if p2 = (3 : Int32) then (ck (inb p1 15) (none)) else (if p2 = (4 : Int32) then (ck (inb p1 15) (none)) else (none)))))))
set_option maxRecDepth 100000 in
theorem tX11_of_x11 {p1 : Int32} {p2 : Int32} {h h0 : HS} (H : fX11_of_x11 p1 p2 h = some h0) : Jx skC RX11 cX11_of 3 (some (.object "")) 1 (some (.ref 11)) h0 0 [some (.ref 0), some (.int p1), some (.int p2)] [] h := by
  unfold fX11_of_x11 at H
  refine j_aload_n (pc := 0) dX11_of_0 rfl ?_
  refine j_getR (pc := 1) (b := 2) dX11_of_1 flX11_20 rfl ?_
  refine j_iload_n (pc := 4) dX11_of_4 rfl ?_
  obtain ⟨r2, h1, eh1, H⟩ := bd_x H
  refine j_callV (pc := 5) dX11_of_5 mlX11_91 wyX4_there (tX4_there eh1) (by decide) rfl rfl rfl rfl (by simp [Value.category]) rfl ?_
  refine j_if_ne (pc := 8) (tgt := 21) dX11_of_8 (by decide) (fun c3 => ?_) (fun c3 => ?_)
  · rw [if_neg c3] at H
    refine j_iload_n (pc := 21) dX11_of_21 rfl ?_
    by_cases c4 : p2 = 0
    · rw [if_pos c4] at H
      refine j_tableIn (pc := 22) (tgt := 56) dX11_of_22 (by rw [c4]; decide) (by rw [c4]; decide) (by rw [c4]; rfl) (by decide) ?_
      refine j_aload_n (pc := 56) dX11_of_56 rfl ?_
      refine j_getR (pc := 57) (b := 2) dX11_of_57 flX11_20 rfl ?_
      refine j_getR (pc := 60) (b := 26) dX11_of_60 flX11_161 rfl ?_
      refine j_iload_n (pc := 63) dX11_of_63 rfl ?_
      obtain ⟨b5, H⟩ := ck_x H
      refine j_iaload (pc := 64) dX11_of_64 rfl b5 rfl ?_
      cases H
    · rw [if_neg c4] at H
      by_cases c6 : p2 = 1
      · rw [if_pos c6] at H
        refine j_tableIn (pc := 22) (tgt := 66) dX11_of_22 (by rw [c6]; decide) (by rw [c6]; decide) (by rw [c6]; rfl) (by decide) ?_
        refine j_aload_n (pc := 66) dX11_of_66 rfl ?_
        refine j_getR (pc := 67) (b := 2) dX11_of_67 flX11_20 rfl ?_
        refine j_getR (pc := 70) (b := 27) dX11_of_70 flX11_164 rfl ?_
        refine j_iload_n (pc := 73) dX11_of_73 rfl ?_
        obtain ⟨b7, H⟩ := ck_x H
        refine j_iaload (pc := 74) dX11_of_74 rfl b7 rfl ?_
        cases H
      · rw [if_neg c6] at H
        by_cases c8 : p2 = 2
        · rw [if_pos c8] at H
          refine j_tableIn (pc := 22) (tgt := 76) dX11_of_22 (by rw [c8]; decide) (by rw [c8]; decide) (by rw [c8]; rfl) (by decide) ?_
          refine j_aload_n (pc := 76) dX11_of_76 rfl ?_
          refine j_getR (pc := 77) (b := 2) dX11_of_77 flX11_20 rfl ?_
          refine j_getR (pc := 80) (b := 28) dX11_of_80 flX11_167 rfl ?_
          refine j_iload_n (pc := 83) dX11_of_83 rfl ?_
          obtain ⟨b9, H⟩ := ck_x H
          refine j_iaload (pc := 84) dX11_of_84 rfl b9 rfl ?_
          cases H
        · rw [if_neg c8] at H
          by_cases c10 : p2 = 3
          · rw [if_pos c10] at H
            refine j_tableIn (pc := 22) (tgt := 86) dX11_of_22 (by rw [c10]; decide) (by rw [c10]; decide) (by rw [c10]; rfl) (by decide) ?_
            refine j_aload_n (pc := 86) dX11_of_86 rfl ?_
            refine j_getR (pc := 87) (b := 2) dX11_of_87 flX11_20 rfl ?_
            refine j_getR (pc := 90) (b := 29) dX11_of_90 flX11_95 rfl ?_
            refine j_iload_n (pc := 93) dX11_of_93 rfl ?_
            obtain ⟨b11, H⟩ := ck_x H
            refine j_iaload (pc := 94) dX11_of_94 rfl b11 rfl ?_
            cases H
          · rw [if_neg c10] at H
            by_cases c12 : p2 = 4
            · rw [if_pos c12] at H
              refine j_tableIn (pc := 22) (tgt := 96) dX11_of_22 (by rw [c12]; decide) (by rw [c12]; decide) (by rw [c12]; rfl) (by decide) ?_
              refine j_aload_n (pc := 96) dX11_of_96 rfl ?_
              refine j_getR (pc := 97) (b := 2) dX11_of_97 flX11_20 rfl ?_
              refine j_getR (pc := 100) (b := 30) dX11_of_100 flX11_98 rfl ?_
              refine j_iload_n (pc := 103) dX11_of_103 rfl ?_
              obtain ⟨b13, H⟩ := ck_x H
              refine j_iaload (pc := 104) dX11_of_104 rfl b13 rfl ?_
              cases H
            · rw [if_neg c12] at H
              refine j_tableOut (pc := 22) (tgt := 106) dX11_of_22 (tb_out (fun k k1 k2 => ?_)) (by decide) ?_
              · have hk : k = 0 ∨ k = 1 ∨ k = 2 ∨ k = 3 ∨ k = 4 := by omega
                rcases hk with rfl | rfl | rfl | rfl | rfl
                · exact c4
                · exact c6
                · exact c8
                · exact c10
                · exact c12
              · cases H
  · rw [if_pos c3] at H
    exact j_throw rfl rfl (rv_2 H)
theorem zX11_of_x11 {p1 p2 : Int32} {h h0 : HS} (H : fX11_of_x11 p1 p2 h = some h0) : Xn yX11_of cX11_of 3 (some .int) 1 [.ref 0, .int p1, .int p2] h h0 :=
  Xn_of (L := [some (.ref 0), some (.int p1), some (.int p2)]) (is := 156) (text := "no such load") (by decide +kernel) rfl (by simp [lg_sl, Value.category]) (fun ad => by simp [lg_sl, tv, Value.category]) (⟨rfl, ⟨rfl, ⟨rfl, trivial⟩⟩⟩) (List.mem_of_getElem? (i := 0) rfl) dX11_of_11 dX11_of_14 (Or.inl ⟨dX11_of_15, dX11_of_17, dX11_of_20⟩) (tX11_of_x11 H)
noncomputable def fX11_of_x106 (p1 : Int32) (p2 : Int32) (h : HS) : Option HS := bd (fX4_there p1 h) (fun r2 h1 => if r2 = 0 then none else (if p2 = (0 : Int32) then (ck (inb p1 15) (none)) else (if p2 = (1 : Int32) then (ck (inb p1 15) (none)) else (if p2 = (2 : Int32) then (ck (inb p1 15) (none)) else (if p2 = (3 : Int32) then (ck (inb p1 15) (none)) else (if p2 = (4 : Int32) then (ck (inb p1 15) (none)) else (some h1)))))))
set_option maxRecDepth 100000 in
theorem tX11_of_x106 {p1 : Int32} {p2 : Int32} {h h0 : HS} (H : fX11_of_x106 p1 p2 h = some h0) : Jx skC RX11 cX11_of 3 (some (.object "")) 1 (some (.ref 106)) h0 0 [some (.ref 0), some (.int p1), some (.int p2)] [] h := by
  unfold fX11_of_x106 at H
  refine j_aload_n (pc := 0) dX11_of_0 rfl ?_
  refine j_getR (pc := 1) (b := 2) dX11_of_1 flX11_20 rfl ?_
  refine j_iload_n (pc := 4) dX11_of_4 rfl ?_
  obtain ⟨r2, h1, eh1, H⟩ := bd_x H
  refine j_callV (pc := 5) dX11_of_5 mlX11_91 wyX4_there (tX4_there eh1) (by decide) rfl rfl rfl rfl (by simp [Value.category]) rfl ?_
  refine j_if_ne (pc := 8) (tgt := 21) dX11_of_8 (by decide) (fun c3 => ?_) (fun c3 => ?_)
  · rw [if_neg c3] at H
    refine j_iload_n (pc := 21) dX11_of_21 rfl ?_
    by_cases c4 : p2 = 0
    · rw [if_pos c4] at H
      refine j_tableIn (pc := 22) (tgt := 56) dX11_of_22 (by rw [c4]; decide) (by rw [c4]; decide) (by rw [c4]; rfl) (by decide) ?_
      refine j_aload_n (pc := 56) dX11_of_56 rfl ?_
      refine j_getR (pc := 57) (b := 2) dX11_of_57 flX11_20 rfl ?_
      refine j_getR (pc := 60) (b := 26) dX11_of_60 flX11_161 rfl ?_
      refine j_iload_n (pc := 63) dX11_of_63 rfl ?_
      obtain ⟨b5, H⟩ := ck_x H
      refine j_iaload (pc := 64) dX11_of_64 rfl b5 rfl ?_
      cases H
    · rw [if_neg c4] at H
      by_cases c6 : p2 = 1
      · rw [if_pos c6] at H
        refine j_tableIn (pc := 22) (tgt := 66) dX11_of_22 (by rw [c6]; decide) (by rw [c6]; decide) (by rw [c6]; rfl) (by decide) ?_
        refine j_aload_n (pc := 66) dX11_of_66 rfl ?_
        refine j_getR (pc := 67) (b := 2) dX11_of_67 flX11_20 rfl ?_
        refine j_getR (pc := 70) (b := 27) dX11_of_70 flX11_164 rfl ?_
        refine j_iload_n (pc := 73) dX11_of_73 rfl ?_
        obtain ⟨b7, H⟩ := ck_x H
        refine j_iaload (pc := 74) dX11_of_74 rfl b7 rfl ?_
        cases H
      · rw [if_neg c6] at H
        by_cases c8 : p2 = 2
        · rw [if_pos c8] at H
          refine j_tableIn (pc := 22) (tgt := 76) dX11_of_22 (by rw [c8]; decide) (by rw [c8]; decide) (by rw [c8]; rfl) (by decide) ?_
          refine j_aload_n (pc := 76) dX11_of_76 rfl ?_
          refine j_getR (pc := 77) (b := 2) dX11_of_77 flX11_20 rfl ?_
          refine j_getR (pc := 80) (b := 28) dX11_of_80 flX11_167 rfl ?_
          refine j_iload_n (pc := 83) dX11_of_83 rfl ?_
          obtain ⟨b9, H⟩ := ck_x H
          refine j_iaload (pc := 84) dX11_of_84 rfl b9 rfl ?_
          cases H
        · rw [if_neg c8] at H
          by_cases c10 : p2 = 3
          · rw [if_pos c10] at H
            refine j_tableIn (pc := 22) (tgt := 86) dX11_of_22 (by rw [c10]; decide) (by rw [c10]; decide) (by rw [c10]; rfl) (by decide) ?_
            refine j_aload_n (pc := 86) dX11_of_86 rfl ?_
            refine j_getR (pc := 87) (b := 2) dX11_of_87 flX11_20 rfl ?_
            refine j_getR (pc := 90) (b := 29) dX11_of_90 flX11_95 rfl ?_
            refine j_iload_n (pc := 93) dX11_of_93 rfl ?_
            obtain ⟨b11, H⟩ := ck_x H
            refine j_iaload (pc := 94) dX11_of_94 rfl b11 rfl ?_
            cases H
          · rw [if_neg c10] at H
            by_cases c12 : p2 = 4
            · rw [if_pos c12] at H
              refine j_tableIn (pc := 22) (tgt := 96) dX11_of_22 (by rw [c12]; decide) (by rw [c12]; decide) (by rw [c12]; rfl) (by decide) ?_
              refine j_aload_n (pc := 96) dX11_of_96 rfl ?_
              refine j_getR (pc := 97) (b := 2) dX11_of_97 flX11_20 rfl ?_
              refine j_getR (pc := 100) (b := 30) dX11_of_100 flX11_98 rfl ?_
              refine j_iload_n (pc := 103) dX11_of_103 rfl ?_
              obtain ⟨b13, H⟩ := ck_x H
              refine j_iaload (pc := 104) dX11_of_104 rfl b13 rfl ?_
              cases H
            · rw [if_neg c12] at H
              refine j_tableOut (pc := 22) (tgt := 106) dX11_of_22 (tb_out (fun k k1 k2 => ?_)) (by decide) ?_
              · have hk : k = 0 ∨ k = 1 ∨ k = 2 ∨ k = 3 ∨ k = 4 := by omega
                rcases hk with rfl | rfl | rfl | rfl | rfl
                · exact c4
                · exact c6
                · exact c8
                · exact c10
                · exact c12
              · exact j_throw rfl rfl (rv_2 H)
  · rw [if_pos c3] at H
    cases H
theorem zX11_of_x106 {p1 p2 : Int32} {h h0 : HS} (H : fX11_of_x106 p1 p2 h = some h0) : Xn yX11_of cX11_of 3 (some .int) 1 [.ref 0, .int p1, .int p2] h h0 :=
  Xn_of (L := [some (.ref 0), some (.int p1), some (.int p2)]) (is := 170) (text := "no such thing of a load") (by decide +kernel) rfl (by simp [lg_sl, Value.category]) (fun ad => by simp [lg_sl, tv, Value.category]) (⟨rfl, ⟨rfl, ⟨rfl, trivial⟩⟩⟩) (List.mem_of_getElem? (i := 1) rfl) dX11_of_106 dX11_of_109 (Or.inl ⟨dX11_of_110, dX11_of_112, dX11_of_115⟩) (tX11_of_x106 H)
noncomputable def fX11_heavy_x7 (p1 : Int32) (h : HS) : Option HS := bd (fX11_isDepth p1 h) (fun r2 h1 => if r2 = 0 then (some h1) else (bd (fX0_heavyAt p1 h1) (fun r5 h4 => none)))
set_option maxRecDepth 100000 in
theorem tX11_heavy_x7 {p1 : Int32} {h h0 : HS} (H : fX11_heavy_x7 p1 h = some h0) : Jx skC RX11 cX11_heavy 2 (some (.object "")) 3 (some (.ref 7)) h0 0 [some (.ref 0), some (.int p1)] [] h := by
  unfold fX11_heavy_x7 at H
  refine j_iload_n (pc := 0) dX11_heavy_0 rfl ?_
  obtain ⟨r2, h1, eh1, H⟩ := bd_x H
  refine j_callS (pc := 1) dX11_heavy_1 mlX11_142 wyX11_isDepth (tX11_isDepth eh1) (by decide) rfl (by simp [Value.category]) rfl ?_
  refine j_if_ne (pc := 4) (tgt := 17) dX11_heavy_4 (by decide) (fun c3 => ?_) (fun c3 => ?_)
  · rw [if_neg c3] at H
    refine j_aload_n (pc := 17) dX11_heavy_17 rfl ?_
    refine j_getR (pc := 18) (b := 1) dX11_heavy_18 flX11_10 rfl ?_
    refine j_iload_n (pc := 21) dX11_heavy_21 rfl ?_
    obtain ⟨r5, h4, eh4, H⟩ := bd_x H
    refine j_callV (pc := 22) dX11_heavy_22 mlX11_174 wyX0_heavyAt (tX0_heavyAt eh4) (by decide) rfl rfl rfl rfl (by simp [Value.category]) rfl ?_
    cases H
  · rw [if_pos c3] at H
    exact j_throw rfl rfl (rv_2 H)
theorem zX11_heavy_x7 {p1 : Int32} {h h0 : HS} (H : fX11_heavy_x7 p1 h = some h0) : Xn yX11_heavy cX11_heavy 2 (some .int) 3 [.ref 0, .int p1] h h0 :=
  Xn_of (L := [some (.ref 0), some (.int p1)]) (is := 172) (text := "no such depth") (by decide +kernel) rfl (by simp [lg_sl, Value.category]) (fun ad => by simp [lg_sl, tv, Value.category]) (⟨rfl, ⟨rfl, trivial⟩⟩) (List.mem_of_getElem? (i := 2) rfl) dX11_heavy_7 dX11_heavy_10 (Or.inl ⟨dX11_heavy_11, dX11_heavy_13, dX11_heavy_16⟩) (tX11_heavy_x7 H)
noncomputable def fX11_moment_x9 (p1 : Int32) (h : HS) : Option HS := bd (fX11_between p1 (0 : Int32) (1 : Int32) h) (fun r2 h1 => if r2 = 0 then (some h1) else (if p1 = 0 then (bd (fX0_momentNow h1) (fun r8 h7 => none)) else (bd (fX0_listNow h1) (fun r6 h5 => none))))
set_option maxRecDepth 100000 in
theorem tX11_moment_x9 {p1 : Int32} {h h0 : HS} (H : fX11_moment_x9 p1 h = some h0) : Jx skC RX11 cX11_moment 2 (some (.object "")) 2 (some (.ref 9)) h0 0 [some (.ref 0), some (.int p1)] [] h := by
  unfold fX11_moment_x9 at H
  refine j_iload_n (pc := 0) dX11_moment_0 rfl ?_
  refine j_iconst (pc := 1) (v := 0) dX11_moment_1 (by decide) ?_
  refine j_iconst (pc := 2) (v := 1) dX11_moment_2 (by decide) ?_
  obtain ⟨r2, h1, eh1, H⟩ := bd_x H
  refine j_callS (pc := 3) dX11_moment_3 mlX11_81 wyX11_between (tX11_between eh1) (by decide) rfl (by simp [Value.category]) rfl ?_
  refine j_if_ne (pc := 6) (tgt := 19) dX11_moment_6 (by decide) (fun c3 => ?_) (fun c3 => ?_)
  · rw [if_neg c3] at H
    refine j_iload_n (pc := 19) dX11_moment_19 rfl ?_
    refine j_if_ne (pc := 20) (tgt := 33) dX11_moment_20 (by decide) (fun c4 => ?_) (fun c4 => ?_)
    · rw [if_neg c4] at H
      refine j_aload_n (pc := 33) dX11_moment_33 rfl ?_
      refine j_getR (pc := 34) (b := 1) dX11_moment_34 flX11_10 rfl ?_
      obtain ⟨r6, h5, eh5, H⟩ := bd_x H
      refine j_callV (pc := 37) dX11_moment_37 mlX11_184 wyX0_listNow (tX0_listNow eh5) (by decide) rfl rfl rfl rfl (by simp [Value.category]) rfl ?_
      cases H
    · rw [if_pos c4] at H
      refine j_aload_n (pc := 23) dX11_moment_23 rfl ?_
      refine j_getR (pc := 24) (b := 1) dX11_moment_24 flX11_10 rfl ?_
      obtain ⟨r8, h7, eh7, H⟩ := bd_x H
      refine j_callV (pc := 27) dX11_moment_27 mlX11_180 wyX0_momentNow (tX0_momentNow eh7) (by decide) rfl rfl rfl rfl (by simp [Value.category]) rfl ?_
      refine j_goto (pc := 30) (tgt := 40) dX11_moment_30 (by decide) ?_
      cases H
  · rw [if_pos c3] at H
    exact j_throw rfl rfl (rv_2 H)
theorem zX11_moment_x9 {p1 : Int32} {h h0 : HS} (H : fX11_moment_x9 p1 h = some h0) : Xn yX11_moment cX11_moment 2 (some .int) 2 [.ref 0, .int p1] h h0 :=
  Xn_of (L := [some (.ref 0), some (.int p1)]) (is := 178) (text := "neither moment nor list") (by decide +kernel) rfl (by simp [lg_sl, Value.category]) (fun ad => by simp [lg_sl, tv, Value.category]) (⟨rfl, ⟨rfl, trivial⟩⟩) (List.mem_of_getElem? (i := 3) rfl) dX11_moment_9 dX11_moment_12 (Or.inl ⟨dX11_moment_13, dX11_moment_15, dX11_moment_18⟩) (tX11_moment_x9 H)
noncomputable def fX11_line_x17 (p1 : Int32) (h : HS) : Option HS := bd (fX11_between p1 (0 : Int32) (((gI h 5 5) - (1 : Int32))) h) (fun r2 h1 => if r2 = 0 then (some h1) else (bd (fX1_valueOf p1 h1) (fun r5 h4 => none)))
set_option maxRecDepth 100000 in
theorem tX11_line_x17 {p1 : Int32} {h h0 : HS} (H : fX11_line_x17 p1 h = some h0) : Jx skC RX11 cX11_line 2 (some (.object "")) 32 (some (.ref 17)) h0 0 [some (.ref 0), some (.int p1)] [] h := by
  unfold fX11_line_x17 at H
  refine j_iload_n (pc := 0) dX11_line_0 rfl ?_
  refine j_iconst (pc := 1) (v := 0) dX11_line_1 (by decide) ?_
  refine j_aload_n (pc := 2) dX11_line_2 rfl ?_
  refine j_getR (pc := 3) (b := 5) dX11_line_3 flX11_42 rfl ?_
  refine j_getI (pc := 6) dX11_line_6 flX11_220 rfl ?_
  refine j_iconst (pc := 9) (v := 1) dX11_line_9 (by decide) ?_
  refine j_isub (pc := 10) dX11_line_10 ?_
  obtain ⟨r2, h1, eh1, H⟩ := bd_x H
  refine j_callS (pc := 11) dX11_line_11 mlX11_81 wyX11_between (tX11_between eh1) (by decide) rfl (by simp [Value.category]) rfl ?_
  refine j_if_ne (pc := 14) (tgt := 27) dX11_line_14 (by decide) (fun c3 => ?_) (fun c3 => ?_)
  · rw [if_neg c3] at H
    refine j_aload_n (pc := 27) dX11_line_27 rfl ?_
    refine j_getR (pc := 28) (b := 5) dX11_line_28 flX11_42 rfl ?_
    refine j_iload_n (pc := 31) dX11_line_31 rfl ?_
    obtain ⟨r5, h4, eh4, H⟩ := bd_x H
    refine j_callV (pc := 32) dX11_line_32 mlX11_225 wyX1_valueOf (tX1_valueOf eh4) (by decide) rfl rfl rfl rfl (by simp [Value.category]) rfl ?_
    cases H
  · rw [if_pos c3] at H
    exact j_throw rfl rfl (rv_2 H)
theorem zX11_line_x17 {p1 : Int32} {h h0 : HS} (H : fX11_line_x17 p1 h = some h0) : Xn yX11_line cX11_line 2 (some .int) 32 [.ref 0, .int p1] h h0 :=
  Xn_of (L := [some (.ref 0), some (.int p1)]) (is := 223) (text := "no such line") (by decide +kernel) rfl (by simp [lg_sl, Value.category]) (fun ad => by simp [lg_sl, tv, Value.category]) (⟨rfl, ⟨rfl, trivial⟩⟩) (List.mem_of_getElem? (i := 4) rfl) dX11_line_17 dX11_line_20 (Or.inl ⟨dX11_line_21, dX11_line_23, dX11_line_26⟩) (tX11_line_x17 H)
noncomputable def fX11_tells_x57_50 (v1 : Int32) (v2 : Int32) (v3 : Int32) (v4 : Int32) (s0 : Int32) (h : HS) : Option HS := if s0 = 0 then (some h) else (bd (fX9_numberOf v1 v2 v3 v4 h) (fun r15 h14 => none))
set_option maxRecDepth 100000 in
theorem jX11_tells_x57_50 {h0 : HS} (v1 : Int32) (v2 : Int32) (v3 : Int32) (v4 : Int32) (s0 : Int32) (h : HS) (H : fX11_tells_x57_50 v1 v2 v3 v4 s0 h = some h0) : Jx skC RX11 cX11_tells 6 (some (.object "")) 5 (some (.ref 57)) h0 50 [some (.ref 0), some (.int v1), some (.int v2), some (.int v3), some (.int v4), none] [.int s0] h := by
  unfold fX11_tells_x57_50 at H
  refine j_istore (pc := 50) (L' := [some (.ref 0), some (.int v1), some (.int v2), some (.int v3), some (.int v4), some (.int s0)]) dX11_tells_50 (by decide) rfl ?_
  refine j_iload (pc := 52) dX11_tells_52 rfl ?_
  refine j_if_ne (pc := 54) (tgt := 68) dX11_tells_54 (by decide) (fun c13 => ?_) (fun c13 => ?_)
  · rw [if_neg c13] at H
    refine j_aload_n (pc := 68) dX11_tells_68 rfl ?_
    refine j_getR (pc := 69) (b := 8) dX11_tells_69 flX11_63 rfl ?_
    refine j_iload_n (pc := 72) dX11_tells_72 rfl ?_
    refine j_iload_n (pc := 73) dX11_tells_73 rfl ?_
    refine j_iload_n (pc := 74) dX11_tells_74 rfl ?_
    refine j_iload (pc := 75) dX11_tells_75 rfl ?_
    obtain ⟨r15, h14, eh14, H⟩ := bd_x H
    refine j_callV (pc := 77) dX11_tells_77 mlX11_362 wyX9_numberOf (tX9_numberOf eh14) (by decide) rfl rfl rfl rfl (by simp [Value.category]) rfl ?_
    cases H
  · rw [if_pos c13] at H
    exact j_throw rfl rfl (rv_2 H)
noncomputable def fX11_tells_x57_49 (v1 : Int32) (v2 : Int32) (v3 : Int32) (v4 : Int32) (h : HS) : Option HS := fX11_tells_x57_50 v1 v2 v3 v4 (0 : Int32) h
set_option maxRecDepth 100000 in
theorem jX11_tells_x57_49 {h0 : HS} (v1 : Int32) (v2 : Int32) (v3 : Int32) (v4 : Int32) (h : HS) (H : fX11_tells_x57_49 v1 v2 v3 v4 h = some h0) : Jx skC RX11 cX11_tells 6 (some (.object "")) 5 (some (.ref 57)) h0 49 [some (.ref 0), some (.int v1), some (.int v2), some (.int v3), some (.int v4), none] [] h := by
  unfold fX11_tells_x57_49 at H
  refine j_iconst (pc := 49) (v := 0) dX11_tells_49 (by decide) ?_
  refine Jx.sub (L' := [some (.ref 0), some (.int v1), some (.int v2), some (.int v3), some (.int v4), none]) (⟨rfl, ⟨rfl, ⟨rfl, ⟨rfl, ⟨rfl, trivial⟩⟩⟩⟩⟩) ?_
  exact jX11_tells_x57_50 v1 v2 v3 v4 (0 : Int32) h H
noncomputable def fX11_tells_x57 (p1 : Int32) (p2 : Int32) (p3 : Int32) (p4 : Int32) (h : HS) : Option HS := bd (fX11_between p1 (0 : Int32) (((gI h 8 3) - (1 : Int32))) h) (fun r2 h1 => if r2 = 0 then (fX11_tells_x57_49 p1 p2 p3 p4 h1) else (bd (fX11_between p2 (0 : Int32) (200 : Int32) h1) (fun r5 h4 => if r5 = 0 then (fX11_tells_x57_49 p1 p2 p3 p4 h4) else (bd (fX11_isDepth p3 h4) (fun r8 h7 => if r8 = 0 then (fX11_tells_x57_49 p1 p2 p3 p4 h7) else (bd (fX11_between p4 (0 : Int32) (2 : Int32) h7) (fun r11 h10 => if r11 = 0 then (fX11_tells_x57_49 p1 p2 p3 p4 h10) else (fX11_tells_x57_50 p1 p2 p3 p4 (1 : Int32) h10))))))))
set_option maxRecDepth 100000 in
theorem tX11_tells_x57 {p1 : Int32} {p2 : Int32} {p3 : Int32} {p4 : Int32} {h h0 : HS} (H : fX11_tells_x57 p1 p2 p3 p4 h = some h0) : Jx skC RX11 cX11_tells 6 (some (.object "")) 5 (some (.ref 57)) h0 0 [some (.ref 0), some (.int p1), some (.int p2), some (.int p3), some (.int p4), none] [] h := by
  unfold fX11_tells_x57 at H
  refine j_iload_n (pc := 0) dX11_tells_0 rfl ?_
  refine j_iconst (pc := 1) (v := 0) dX11_tells_1 (by decide) ?_
  refine j_aload_n (pc := 2) dX11_tells_2 rfl ?_
  refine j_getR (pc := 3) (b := 8) dX11_tells_3 flX11_63 rfl ?_
  refine j_getI (pc := 6) dX11_tells_6 flX11_354 rfl ?_
  refine j_iconst (pc := 9) (v := 1) dX11_tells_9 (by decide) ?_
  refine j_isub (pc := 10) dX11_tells_10 ?_
  obtain ⟨r2, h1, eh1, H⟩ := bd_x H
  refine j_callS (pc := 11) dX11_tells_11 mlX11_81 wyX11_between (tX11_between eh1) (by decide) rfl (by simp [Value.category]) rfl ?_
  refine j_if_eq (pc := 14) (tgt := 49) dX11_tells_14 (by decide) (fun c3 => ?_) (fun c3 => ?_)
  · rw [if_pos c3] at H
    refine Jx.sub (L' := [some (.ref 0), some (.int p1), some (.int p2), some (.int p3), some (.int p4), none]) (⟨rfl, ⟨rfl, ⟨rfl, ⟨rfl, ⟨rfl, trivial⟩⟩⟩⟩⟩) ?_
    exact jX11_tells_x57_49 p1 p2 p3 p4 h1 H
  · rw [if_neg c3] at H
    refine j_iload_n (pc := 17) dX11_tells_17 rfl ?_
    refine j_iconst (pc := 18) (v := 0) dX11_tells_18 (by decide) ?_
    refine j_sipush (pc := 19) (v := 200) dX11_tells_19 (by decide) ?_
    obtain ⟨r5, h4, eh4, H⟩ := bd_x H
    refine j_callS (pc := 22) dX11_tells_22 mlX11_81 wyX11_between (tX11_between eh4) (by decide) rfl (by simp [Value.category]) rfl ?_
    refine j_if_eq (pc := 25) (tgt := 49) dX11_tells_25 (by decide) (fun c6 => ?_) (fun c6 => ?_)
    · rw [if_pos c6] at H
      refine Jx.sub (L' := [some (.ref 0), some (.int p1), some (.int p2), some (.int p3), some (.int p4), none]) (⟨rfl, ⟨rfl, ⟨rfl, ⟨rfl, ⟨rfl, trivial⟩⟩⟩⟩⟩) ?_
      exact jX11_tells_x57_49 p1 p2 p3 p4 h4 H
    · rw [if_neg c6] at H
      refine j_iload_n (pc := 28) dX11_tells_28 rfl ?_
      obtain ⟨r8, h7, eh7, H⟩ := bd_x H
      refine j_callS (pc := 29) dX11_tells_29 mlX11_142 wyX11_isDepth (tX11_isDepth eh7) (by decide) rfl (by simp [Value.category]) rfl ?_
      refine j_if_eq (pc := 32) (tgt := 49) dX11_tells_32 (by decide) (fun c9 => ?_) (fun c9 => ?_)
      · rw [if_pos c9] at H
        refine Jx.sub (L' := [some (.ref 0), some (.int p1), some (.int p2), some (.int p3), some (.int p4), none]) (⟨rfl, ⟨rfl, ⟨rfl, ⟨rfl, ⟨rfl, trivial⟩⟩⟩⟩⟩) ?_
        exact jX11_tells_x57_49 p1 p2 p3 p4 h7 H
      · rw [if_neg c9] at H
        refine j_iload (pc := 35) dX11_tells_35 rfl ?_
        refine j_iconst (pc := 37) (v := 0) dX11_tells_37 (by decide) ?_
        refine j_iconst (pc := 38) (v := 2) dX11_tells_38 (by decide) ?_
        obtain ⟨r11, h10, eh10, H⟩ := bd_x H
        refine j_callS (pc := 39) dX11_tells_39 mlX11_81 wyX11_between (tX11_between eh10) (by decide) rfl (by simp [Value.category]) rfl ?_
        refine j_if_eq (pc := 42) (tgt := 49) dX11_tells_42 (by decide) (fun c12 => ?_) (fun c12 => ?_)
        · rw [if_pos c12] at H
          refine Jx.sub (L' := [some (.ref 0), some (.int p1), some (.int p2), some (.int p3), some (.int p4), none]) (⟨rfl, ⟨rfl, ⟨rfl, ⟨rfl, ⟨rfl, trivial⟩⟩⟩⟩⟩) ?_
          exact jX11_tells_x57_49 p1 p2 p3 p4 h10 H
        · rw [if_neg c12] at H
          refine j_iconst (pc := 45) (v := 1) dX11_tells_45 (by decide) ?_
          refine j_goto (pc := 46) (tgt := 50) dX11_tells_46 (by decide) ?_
          refine Jx.sub (L' := [some (.ref 0), some (.int p1), some (.int p2), some (.int p3), some (.int p4), none]) (⟨rfl, ⟨rfl, ⟨rfl, ⟨rfl, ⟨rfl, trivial⟩⟩⟩⟩⟩) ?_
          exact jX11_tells_x57_50 p1 p2 p3 p4 (1 : Int32) h10 H
theorem zX11_tells_x57 {p1 p2 p3 p4 : Int32} {h h0 : HS} (H : fX11_tells_x57 p1 p2 p3 p4 h = some h0) : Xn yX11_tells cX11_tells 6 (some .int) 5 [.ref 0, .int p1, .int p2, .int p3, .int p4] h h0 :=
  Xn_of (L := [some (.ref 0), some (.int p1), some (.int p2), some (.int p3), some (.int p4), none]) (is := 360) (text := "nothing is told of that") (by decide +kernel) rfl (by simp [lg_sl, Value.category]) (fun ad => by simp [lg_sl, tv, Value.category]) (⟨rfl, ⟨rfl, ⟨rfl, ⟨rfl, ⟨rfl, trivial⟩⟩⟩⟩⟩) (List.mem_of_getElem? (i := 5) rfl) dX11_tells_57 dX11_tells_60 (Or.inr ⟨dX11_tells_61, dX11_tells_64, dX11_tells_67⟩) (tX11_tells_x57 H)
noncomputable def fX11_row_x17 (p1 : Int32) (h : HS) : Option HS := bd (fX11_between p1 (0 : Int32) (((gI h 4 1) - (1 : Int32))) h) (fun r2 h1 => if r2 = 0 then (some h1) else (ck (inb p1 20) (none)))
set_option maxRecDepth 100000 in
theorem tX11_row_x17 {p1 : Int32} {h h0 : HS} (H : fX11_row_x17 p1 h = some h0) : Jx skC RX11 cX11_row 2 (some (.object "")) 1 (some (.ref 17)) h0 0 [some (.ref 0), some (.int p1)] [] h := by
  unfold fX11_row_x17 at H
  refine j_iload_n (pc := 0) dX11_row_0 rfl ?_
  refine j_iconst (pc := 1) (v := 0) dX11_row_1 (by decide) ?_
  refine j_aload_n (pc := 2) dX11_row_2 rfl ?_
  refine j_getR (pc := 3) (b := 4) dX11_row_3 flX11_29 rfl ?_
  refine j_getI (pc := 6) dX11_row_6 flX11_288 rfl ?_
  refine j_iconst (pc := 9) (v := 1) dX11_row_9 (by decide) ?_
  refine j_isub (pc := 10) dX11_row_10 ?_
  obtain ⟨r2, h1, eh1, H⟩ := bd_x H
  refine j_callS (pc := 11) dX11_row_11 mlX11_81 wyX11_between (tX11_between eh1) (by decide) rfl (by simp [Value.category]) rfl ?_
  refine j_if_ne (pc := 14) (tgt := 28) dX11_row_14 (by decide) (fun c3 => ?_) (fun c3 => ?_)
  · rw [if_neg c3] at H
    refine j_aload_n (pc := 28) dX11_row_28 rfl ?_
    refine j_getR (pc := 29) (b := 4) dX11_row_29 flX11_29 rfl ?_
    refine j_getR (pc := 32) (b := 35) dX11_row_32 flX11_460 rfl ?_
    refine j_iload_n (pc := 35) dX11_row_35 rfl ?_
    obtain ⟨b4, H⟩ := ck_x H
    refine j_iaload (pc := 36) dX11_row_36 rfl b4 rfl ?_
    cases H
  · rw [if_pos c3] at H
    exact j_throw rfl rfl (rv_2 H)
theorem zX11_row_x17 {p1 : Int32} {h h0 : HS} (H : fX11_row_x17 p1 h = some h0) : Xn yX11_row cX11_row 2 (some .int) 1 [.ref 0, .int p1] h h0 :=
  Xn_of (L := [some (.ref 0), some (.int p1)]) (is := 458) (text := "no such number in the row") (by decide +kernel) rfl (by simp [lg_sl, Value.category]) (fun ad => by simp [lg_sl, tv, Value.category]) (⟨rfl, ⟨rfl, trivial⟩⟩) (List.mem_of_getElem? (i := 6) rfl) dX11_row_17 dX11_row_20 (Or.inr ⟨dX11_row_21, dX11_row_24, dX11_row_27⟩) (tX11_row_x17 H)
