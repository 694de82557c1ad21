def R_law : String := "HundredMenAftLaw"
def lw_P (b : Addr) (xs : List Int32) (args : Array Value) (s : State) : Prop := args = #[.ref b] ∧ s.IntsAt b xs ∧ xs.length ≤ 3072 ∧ (Jvm.Cond.and given_1 narrow_1).before args s = true
def lw_Q (_ : Array Value) (s : State) (o : Outcome) (t : State) : Prop := o = .returned (some (.int 1)) ∧ Framed s o t [] 601024 7293034
def lw_Z (below : List Frame) (a : Array Value) (s : State) : State → Prop := fun t => ∃ o, t.status = .running ∧ Ended t below o ∧ lw_Q a s o t
/-- the law's own end, with 1 on the stack, nothing written that was there before, its room as the claim has it -/
theorem lw_ret {p : Program} {l : Launch} {e : Env} {s : State} {m : MethodId} {below : List Frame} {meth : Method} {c : Code} {b : Nat} (hx : p.tables.exec = Jvm.exec) (hb : c.code = code) (hr : meth.sig.returnType = ret) (hlocks : meth.locks = false) {pc : Nat} {H : Heap} {ls : Array Slot} (hdg : decode code pc = .ok (.ireturn, 1)) : W p l e room_1 s m #[Value.ref b] below meth c H [] 601024 7293034 (lw_Z below #[Value.ref b] s) (F0 m pc ls [.int 1]) := by
  intro T hT X
  obtain ⟨fs, hret, hrun, hended, hW, hframe⟩ := X.leave (v := some (.int 1)) (hlocks := hlocks) (fun h => by rw [hr] at h; cases h)
  have hmeth' : T.vm.method? m = some meth := X.method'
  refine ⟨T.setFrames fs, ?_, .returned (some (.int 1)), hrun, hended, rfl, ⟨_, rfl⟩, hW, hframe⟩
  jvm_step X.here [X.here.top, hx, hb, hdg, hmeth', hr, ret, narrow_b1]
  (try refine ⟨rfl, ?_⟩); (try refine ⟨rfl, ?_⟩)
  first | (intro acts; rw [hret _ acts rfl rfl rfl]) | rw [hret _ _ rfl rfl rfl]
  exact Steps.refl _
/-- what holds at the law's entry: the machine, the code, the tables' words (any of lw_tbl by 'hts w (by decide +kernel)'), the script of L ints xs at the cell b, what the Statement gives of the start (any of its parts by flat_of_before) -/
def lw_At (p : Program) (s : State) (m : MethodId) (meth : Method) (c : Code) (b L : Nat) (xs : Nat → Int32) : Prop :=
  p.tables.exec = Jvm.exec ∧ c.code = code ∧ meth.sig.returnType = ret ∧ c.maxLocals = 7 ∧ s.vm.findClass R_law = some m.cls ∧ (∀ w ∈ lw_tbl, w.before #[Value.ref b] s = true) ∧ va_X b L xs s s.heap ∧ b < s.heap.size ∧ meth.locks = false ∧ (Jvm.Cond.and given_1 narrow_1).before #[Value.ref b] s = true
theorem wC0 (ca : Nat → Nat) (q : Nat) : wlg ca (fun _ => q) [(0, 11, fsC0, f0)] = [(q, .inr (11, fsC0))] := rfl
theorem wM0 (ca : Nat → Nat) (q : Nat) : wlg ca (fun _ => q) [(0, 12, fsM0, f0)] = [(q, .inr (12, fsM0))] := rfl
theorem ro_st (q : Nat) : (([Value.ref q]).map fun v => v.category).sum ≤ 8 := Nat.le_of_ble_eq_true rfl
theorem ro_c : room_1.cells = 601024 := rfl
theorem ro_s : room_1.slots = 7293034 := rfl
theorem ro_f : room_1.frames = 2048 := rfl
theorem ro_l : room_1.locals = 84000 := rfl
theorem cb_l : 1 * componentBytes .long ≤ 536870912 := by
  rw [show componentBytes .long = 8 from rfl]
  omega
def oL : vp_A := (1, .inr (.inl (fun _ => 0)))
theorem oL_out (ca : Nat → Nat) : outE ca 0 = .inl (ca 4, oL) := rfl
theorem oL_ok (cA : ClassId) : vp_cell cA oL = arrV cA 1 (fun _ => defaultValue .long) := rfl
theorem one_nn : ¬ (1 : Int32) < 0 := by decide
theorem one_cl : (1 : Int32).toNatClampNeg = 1 := by decide
section LWZ
variable {p : Program} {l : Launch} {e : Env} {s : State} {m : MethodId} {below : List Frame} {meth : Method} {c : Code} {b L : Nat} {xs : Nat → Int32} {D : va_G} {ca : Nat → Nat}
theorem ws_P {ad1 ad2 : Nat → Nat} {q2 : Nat} {H : Heap} (hP : va_P D vwCl ((wlg ca ad1 csFC ++ wlg ca ad2 csFM) ++ [(q2, outE ca 0)]) H) : va_P D vwCl (wl ca (fun k => ad1 (pmC.getD k 0)) (fun k => ad2 (pmM.getD k 0)) q2 h0C h0M 0) H := by
  have pC := pmC_P (P_left (P_left hP))
  have pM := pmM_P (P_right (P_left hP))
  have pO := P_right hP
  unfold wl
  exact pM.app (pC.app pO)
theorem ws_D {A : Nat → Prop} {ad1 ad2 : Nat → Nat} {q2 : Nat} (hD : va_D A ((wlg ca ad1 csFC ++ wlg ca ad2 csFM) ++ [(q2, outE ca 0)])) : va_D A (wl ca (fun k => ad1 (pmC.getD k 0)) (fun k => ad2 (pmM.getD k 0)) q2 h0C h0M 0) := by
  have dC := pmC_D (D_left (D_left hD))
  have dM := pmM_D (D_right (D_left hD))
  have dO := D_right hD
  unfold wl
  refine dM.app (dC.app dO (fun i j x y hi hj exy => ?_)) (fun i j x y hi hj exy => ?_)
  · obtain ⟨j1, y1, g1, g2⟩ := wl_in (cs := csFC) pmC_lt hi
    exact D_apart hD (ap_l (w2 := wlg ca ad2 csFM) g1) hj (g2.trans exy)
  · obtain ⟨j1, y1, g1, g2⟩ := wl_in (cs := csFM) pmM_lt hi
    by_cases hjl : j < (wld skC ca (fun k => ad1 (pmC.getD k 0)) h0C).length
    · rw [List.getElem?_append_left hjl] at hj
      obtain ⟨j2, y2, g3, g4⟩ := wl_in (cs := csFC) pmC_lt hj
      exact D_apart (D_left hD) g3 g1 (g4.trans (exy.symm.trans g2.symm))
    · rw [List.getElem?_append_right (by omega)] at hj
      exact D_apart hD (ap_r (w1 := wlg ca ad1 csFC) g1) hj (g2.trans exy)
/-- from the loop's head -/
theorem ws_1 (hr : meth.sig.returnType = ret) (hlocks : meth.locks = false) (X : LX p l s m c b L xs D ca) {ad1 ad2 : Nat → Nat} {q0 q1 q2 : Nat} (a1 : ad1 0 = q0) (a2 : ad2 0 = q1) {H : Heap} {locs : List Loc} {ls : Array Slot} (hP : va_P D vwCl ((wlg ca ad1 csFC ++ wlg ca ad2 csFM) ++ [(q2, outE ca 0)]) H) (hD : va_D (A0 s) ((wlg ca ad1 csFC ++ wlg ca ad2 csFM) ++ [(q2, outE ca 0)])) (hS : va_S (A0 s) s.heap H locs) (hl : lv_has ls 7 [(4, .int 0), (3, .ref q2), (2, .ref q1), (1, .ref q0), (0, .ref b)]) : W p l e room_1 s m #[Value.ref b] below meth c H locs 108 1709 (lw_Z below #[Value.ref b] s) (F0 m 23 ls []) := by
  have hL := X.2.2.2.2.2.2
  have f : ∀ (i : Nat) (hc hm : HS) (x : Int64) (cl sl : Nat), cl ≤ 601024 → sl ≤ 7293034 → LH p l e s m b below meth c D ca (fun k => ad1 (pmC.getD k 0)) (fun k => ad2 (pmM.getD k 0)) q2 (lw_Z below #[Value.ref b] s) i 2388 hc hm x cl sl := by
    intro i hc hm x cl sl h1 h2 H locs ls hP hD hS hl
    refine lv_iconst (v := 1) X.1.1 X.1.2.1 dL_law_2388 (by decide) ?_
    refine va_forget (fun q hq => hS.2.2 q hq) ?_
    refine W.widen (k := 601024) (n := 7293034) h1 h2 ?_
    exact lw_ret X.1.1 X.1.2.1 hr hlocks dL_law_2389
  have h5 : lv_has ls 7 (lv5 b (fun k => ad1 (pmC.getD k 0)) (fun k => ad2 (pmM.getD k 0)) q2 0) := by
    have e1 : (fun k => ad1 (pmC.getD k 0)) 0 = q0 := a1
    have e2 : (fun k => ad2 (pmM.getD k 0)) 0 = q1 := a2
    show lv_has ls 7 [(0, .ref b), (1, .ref ((fun k => ad1 (pmC.getD k 0)) 0)), (2, .ref ((fun k => ad2 (pmM.getD k 0)) 0)), (3, .ref q2), (4, .int (nI 0))]
    rw [e1, e2, nI_0]
    exact lv_sub hl [4, 3, 2, 1, 0] rfl
  exact law_loop X f 512 0 h0C h0M 0 108 1709 RR0 (by omega) (by omega) (by omega) (by omega) H locs ls (ws_P hP) (ws_D hD) hS h5
theorem ws_eA {cA : ClassId} (hK : va_K D vwCl (tysJ ca) s) (hK5 : va_K D vwCl (tysJ ca ++ [(cA, .long)]) s) : cA = ca 4 := by
  have h1 : s.vm.findClass ("[" ++ FieldType.long.toString) = some cA := (hK5.2 5 (cA, .long) rfl).2
  have h2 : s.vm.findClass ("[" ++ FieldType.long.toString) = some (ca 4) := (hK.2 3 (ca 4, .long) rfl).2
  exact Option.some.inj (h1.symm.trans h2)
theorem ws_5 (hr : meth.sig.returnType = ret) (hlocks : meth.locks = false) (X : LX p l s m c b L xs D ca) {ad1 ad2 : Nat → Nat} {q0 q1 q2 : Nat} {cA : ClassId} (a1 : ad1 0 = q0) (a2 : ad2 0 = q1) {H : Heap} {locs : List Loc} {ls : Array Slot} {ws : va_W} (ew : ws = wlg ca ad1 csFC ++ wlg ca ad2 csFM) (hP : va_P D vwCl (ws ++ [(q2, .inl (cA, oL))]) H) (hD : va_D (A0 s) (ws ++ [(q2, .inl (cA, oL))])) (hS : va_S (A0 s) s.heap H locs) (eA : cA = ca 4) (hl : lv_has ls 7 [(2, .ref q1), (1, .ref q0), (0, .ref b)]) : W p l e room_1 s m #[Value.ref b] below meth c H locs 108 1709 (lw_Z below #[Value.ref b] s) (F0 m 19 ls [.ref q2]) := by
  rw [eA, ← oL_out, ew] at hP hD
  refine lv_astore_n (lv' := [(3, .ref q2), (2, .ref q1), (1, .ref q0), (0, .ref b)]) X.1.1 X.1.2.1 dL_law_19 rfl hl (by decide) rfl (fun ls hl => ?_)
  refine lv_iconst (v := 0) X.1.1 X.1.2.1 dL_law_20 (by decide) ?_
  refine lv_istore (lv' := [(4, .int 0), (3, .ref q2), (2, .ref q1), (1, .ref q0), (0, .ref b)]) X.1.1 X.1.2.1 dL_law_21 hl (by decide) rfl (fun ls hl => ?_)
  exact ws_1 hr hlocks X a1 a2 hP hD hS hl
theorem ws_6 (hr : meth.sig.returnType = ret) (hlocks : meth.locks = false) (X : LX p l s m c b L xs D ca) {ad1 ad2 : Nat → Nat} {q0 q1 : Nat} (a1 : ad1 0 = q0) (a2 : ad2 0 = q1) {H : Heap} {locs : List Loc} {ls : Array Slot} {ws : va_W} (ew : ws = wlg ca ad1 csFC ++ wlg ca ad2 csFM) (hP : va_P D vwCl ws H) (hD : va_D (A0 s) ws) (hS : va_S (A0 s) s.heap H locs) (hl : lv_has ls 7 [(2, .ref q1), (1, .ref q0), (0, .ref b)]) : W p l e room_1 s m #[Value.ref b] below meth c H locs 107 1708 (lw_Z below #[Value.ref b] s) (F0 m 17 ls [.int 1]) := by
  have hal : (Cond.arrayClass (newarray.typeOf .long)).before #[Value.ref b] s = true := X.1.2.2.2.2 (.arrayClass .long) (stL_gw (by decide +kernel))
  have hA : ∀ q : Nat, s.heap.size ≤ q → A0 s q := fun _ h => h
  have hc9 : 107 + 1 ≤ room_1.cells := by rw [ro_c]; omega
  have hs9 : 1708 + 1 ≤ room_1.slots := by rw [ro_s]; omega
  refine va_newa (atype := .long) (ty := .long) (N' := 1) (a0 := oL) (n := 1) X.1.1 X.1.2.1 hal rfl X.2.2.1.1 hP hD hS hA oL_ok one_nn one_cl cb_l hc9 hs9 dL_law_17 (fun q2 cA H5 hK5 hP5 hD5 hS5 => ?_)
  exact ws_5 hr hlocks X a1 a2 ew hP5 hD5 hS5 (ws_eA X.2.2.1.1 hK5) hl
theorem ws_3 (hr : meth.sig.returnType = ret) (hlocks : meth.locks = false) (X : LX p l s m c b L xs D ca) {ad1 ad2 : Nat → Nat} {q0 q1 : Nat} (a1 : ad1 0 = q0) (a2 : ad2 0 = q1) {H : Heap} {locs : List Loc} {ls : Array Slot} {ws : va_W} (ew : ws = wlg ca ad1 csFC ++ wlg ca ad2 csFM) (hP : va_P D vwCl ws H) (hD : va_D (A0 s) ws) (hS : va_S (A0 s) s.heap H locs) (hl : lv_has ls 7 [(1, .ref q0), (0, .ref b)]) : W p l e room_1 s m #[Value.ref b] below meth c H locs 107 1708 (lw_Z below #[Value.ref b] s) (F0 m 15 ls [.ref q1]) := by
  refine lv_astore_n (lv' := [(2, .ref q1), (1, .ref q0), (0, .ref b)]) X.1.1 X.1.2.1 dL_law_15 rfl hl (by decide) rfl (fun ls hl => ?_)
  refine lv_iconst (v := 1) X.1.1 X.1.2.1 dL_law_16 (by decide) ?_
  exact ws_6 hr hlocks X a1 a2 ew hP hD hS hl
/-- from where the model is made -/
theorem ws_4 (hr : meth.sig.returnType = ret) (hlocks : meth.locks = false) (X : LX p l s m c b L xs D ca) (hK : KG D ca s) {ad1 : Nat → Nat} {q0 q1 : Nat} (a1 : ad1 0 = q0) {H : Heap} {locs : List Loc} {ls : Array Slot} {wr : va_W} (ew : wr = wlg ca ad1 csFC) (hP : va_P D vwCl (wr ++ wlg ca (fun _ => q1) [(0, 12, fsM0, f0)]) H) (hD : va_D (A0 s) (wr ++ wlg ca (fun _ => q1) [(0, 12, fsM0, f0)])) (hS : va_S (A0 s) s.heap H locs) (hl : lv_has ls 7 [(1, .ref q0), (0, .ref b)]) : W p l e room_1 s m #[Value.ref b] below meth c H locs 69 736 (lw_Z below #[Value.ref b] s) (F0 m 12 ls [.ref q1, .ref q1]) := by
  have C := X.1
  have hg := C.2.2.2.2
  have hw : ∀ w ∈ stL, w.before #[Value.ref b] s = true := fun w h => hg w (stL_gw h)
  have hA : ∀ q : Nat, s.heap.size ≤ q → A0 s q := fun _ h => h
  have hM2 := kcM l D ca (fun _ => q1) H.size
  have hP3c := P_right hP
  have hD3c := D_right hD
  have hrun2 := va_runI (g := F0 m 12 ls [.ref q1, .ref q1]) (As := []) (b := q1) (rest := [.ref q1]) (index := 35) (n := 0) (R := room_1) (below := below) (meth := meth) (e := e) (H := H) (locs := locs) (cells := 69) (slots := 736) C hM2 ⟨callB_of 0 hg (gw_cons yiX12_init.2.2.1) rfl rfl rfl (hg _ yiX12_init.2.1) (hw (.methodLink RL 35 yX12_init) (by decide +kernel)) yiX12_init.2.2.2.1 ⟨by rw [ro_f]; decide, by rw [ro_l]; decide⟩, yiX12_init.2.2.2.2.1, hg _ yiX12_init.1⟩
    ⟨Cg_blind, fun U hU hW => ⟨rfl, by rw [hU], by rw [hU]; exact hP3c, hK.warm hW, hD3c.weaken (fun _ _ _ _ => trivial)⟩⟩ rfl rfl hl.1 rfl (lv_room (ro_st q1)) dL_law_12 ⟨by rw [ro_c]; omega, by rw [ro_s]; omega⟩
  refine g_backF (R := room_1) (cs := [(0, 12, fsM0, f0)]) (cs1 := csFM) hP hD hS hA hrun2 (fun ad2 H4 locs4 hag2 hP4 hD4 hS4 => ?_)
  have a20 : ad2 0 = q1 := hag2 0 (by decide)
  exact ws_3 hr hlocks X a1 a20 (by rw [ew]) hP4 hD4 hS4 hl
theorem ws_2 (hr : meth.sig.returnType = ret) (hlocks : meth.locks = false) (X : LX p l s m c b L xs D ca) (hK : KG D ca s) {ad1 : Nat → Nat} {q0 : Nat} (a1 : ad1 0 = q0) {H : Heap} {locs : List Loc} {ls : Array Slot} {wr : va_W} (ew : wr = wlg ca ad1 csFC) (hP : va_P D vwCl wr H) (hD : va_D (A0 s) wr) (hS : va_S (A0 s) s.heap H locs) (hl : lv_has ls 7 [(1, .ref q0), (0, .ref b)]) : W p l e room_1 s m #[Value.ref b] below meth c H locs 68 667 (lw_Z below #[Value.ref b] s) (F0 m 8 ls []) := by
  have C := X.1
  have hx := C.1
  have hb := C.2.1
  have hown := C.2.2.2.1
  have hg := C.2.2.2.2
  have hw : ∀ w ∈ stL, w.before #[Value.ref b] s = true := fun w h => hg w (stL_gw h)
  have hA : ∀ q : Nat, s.heap.size ≤ q → A0 s q := fun _ h => h
  refine va_new (ci := 12) (fs := fsM0) (C := RX12) (T := TX12) (N := 69) hx hb hg inG12 tyX12 tyX12_ok hown (hw (.classLink RL 33 RX12) (by decide +kernel)) (hw (.instantiable RX12 69) (by decide +kernel)) (hw (.initialized RX12) (by decide +kernel)) hK.1.1 hP hD hS hA rfl fsM_ok (by rw [ro_c]; omega) (by rw [ro_s]; omega) dL_law_8 (fun q1 H3 hP3 hD3 hS3 => ?_)
  rw [← wM0 ca q1] at hP3 hD3
  refine lv_dup hx hb dL_law_11 rfl ?_
  exact ws_4 hr hlocks X hK a1 ew hP3 hD3 hS3 hl
/-- from the entry -/
theorem whole_start (hl0 : l.stackTraces = false) (hL : L ≤ 3072) (C0 : lw_At p s m meth c b L xs) : W p l e room_1 s m #[Value.ref b] below meth c s.heap [] 0 0 (lw_Z below #[Value.ref b] s) (entryFrame m ([Value.ref b] : List Value).toArray 7) := by
  obtain ⟨hx, hb, hr, hml, hown, hts, hX, hbl, hlocks, hgv⟩ := id C0
  obtain ⟨D, ca, hK⟩ := st_KG hts
  have hXE := st_XE hts hgv
  have hg : ∀ w ∈ GW, w.before #[Value.ref b] s = true := fun w h => hts w (List.mem_filter.mp h).1
  have hw : ∀ w ∈ stL, w.before #[Value.ref b] s = true := fun w h => hts w (stL_in w h)
  have C : CallFix p m c cL_law 7 s #[Value.ref b] GW RL := ⟨hx, hb, hml, hown, hg⟩
  have X : LX p l s m c b L xs D ca := ⟨C, hl0, hK.1, hXE, hX, hbl, hL⟩
  have hA : ∀ q : Nat, s.heap.size ≤ q → A0 s q := fun _ h => h
  have hl := lv_entry ([.ref b]) (n := 7) (Nat.le_of_ble_eq_true rfl)
  rw [lg_entry_eq]
  generalize (lg_sl ([.ref b]) ++ List.replicate (7 - (lg_sl ([.ref b])).length) Slot.unset).toArray = ls at hl ⊢
  have hl : lv_has ls 7 [(0, .ref b)] := hl
  have hP0 : va_P D vwCl [] s.heap := fun k q h => by simp at h
  have hD0 : va_D (A0 s) [] := ⟨fun i j p q h => by simp at h, fun k q h => by simp at h⟩
  refine va_new (ci := 11) (fs := fsC0) (C := RX11) (T := TX11) (N := 12) (ws := []) hx hb hg inG11 tyX11 tyX11_ok hown (hw (.classLink RL 8 RX11) (by decide +kernel)) (hw (.instantiable RX11 12) (by decide +kernel)) (hw (.initialized RX11) (by decide +kernel)) hK.1.1 hP0 hD0 va_S.rf hA rfl fsC_ok (by rw [ro_c]; omega) (by rw [ro_s]; omega) dL_law_0 (fun q0 H1 hP1 hD1 hS1 => ?_)
  rw [List.nil_append, ← wC0 ca q0] at hP1 hD1
  refine lv_dup hx hb dL_law_3 rfl ?_
  have hM1 := kcC l D ca (fun _ => q0) H1.size
  have hrun1 := va_runI (g := F0 m 4 ls [.ref q0, .ref q0]) (As := []) (b := q0) (rest := [.ref q0]) (index := 32) (n := 0) (R := room_1) (below := below) (meth := meth) (e := e) (H := H1) (locs := []) (cells := 0 + 1) (slots := 0 + 12) C hM1 ⟨callB_of 0 hg (gw_cons yiX11_init.2.2.1) rfl rfl rfl (hg _ yiX11_init.2.1) (hw (.methodLink RL 32 yX11_init) (by decide +kernel)) yiX11_init.2.2.2.1 ⟨by rw [ro_f]; decide, by rw [ro_l]; decide⟩, yiX11_init.2.2.2.2.1, hg _ yiX11_init.1⟩
    ⟨Cg_blind, fun U hU hW => ⟨rfl, by rw [hU], by rw [hU]; exact hP1, hK.warm hW, hD1.weaken (fun _ _ _ _ => trivial)⟩⟩ rfl rfl hl.1 rfl (lv_room (ro_st q0)) dL_law_4 ⟨by rw [ro_c]; omega, by rw [ro_s]; omega⟩
  refine g_back (R := room_1) (cs := [(0, 11, fsC0, f0)]) (cs1 := csFC) hD1 hS1 hA hrun1 (fun ad1 H2 locs2 hag1 hP2 hD2 hS2 => ?_)
  have a10 : ad1 0 = q0 := hag1 0 (by decide)
  refine lv_astore_n (lv' := [(1, .ref q0), (0, .ref b)]) hx hb dL_law_7 rfl hl (by decide) rfl (fun ls hl => ?_)
  exact ws_2 hr hlocks X hK a10 rfl hP2 hD2 hS2 hl
end LWZ
