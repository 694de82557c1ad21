/-! calls in a larger world -/
theorem fr_G {ws0 w w1 ws2 : va_W} {B A : Nat → Prop} {D : va_G} {H H1 : Heap} (hlen : w1.length = w.length) (had : ∀ (k : Nat) (x : Nat × va_E), w1[k]? = some x → ∃ y, w[k]? = some y ∧ y.1 = x.1) (hB : ∀ q, B q → ∃ (k : Nat) (x : Nat × va_E), w[k]? = some x ∧ x.1 = q)
    (hP : va_P D vwCl (ws0 ++ (w ++ ws2)) H) (hD : va_D A (ws0 ++ (w ++ ws2))) (hP1 : va_P D vwCl w1 H1) (hk : ∀ q : Nat, q < H.size → ¬ B q → H1[q]? = H[q]?) : va_P D vwCl (ws0 ++ (w1 ++ ws2)) H1 ∧ va_D A (ws0 ++ (w1 ++ ws2)) := by
  -- an entry: in ws0, in w1, in ws2
  have key : ∀ (k : Nat) (x : Nat × va_E), (ws0 ++ (w1 ++ ws2))[k]? = some x → ((ws0 ++ (w ++ ws2))[k]? = some x ∧ (k < ws0.length ∨ ws0.length + w.length ≤ k)) ∨ (∃ j y, k = ws0.length + j ∧ w1[j]? = some x ∧ (ws0 ++ (w ++ ws2))[k]? = some y ∧ y.1 = x.1) := by
    intro k x hx
    by_cases h1 : k < ws0.length
    · rw [List.getElem?_append_left h1] at hx
      exact Or.inl ⟨by rw [List.getElem?_append_left h1]; exact hx, Or.inl h1⟩
    · rw [List.getElem?_append_right (by omega)] at hx
      by_cases h2 : k - ws0.length < w1.length
      · rw [List.getElem?_append_left h2] at hx
        obtain ⟨y, hy, e⟩ := had _ _ hx
        exact Or.inr ⟨k - ws0.length, y, by omega, hx, by rw [List.getElem?_append_right (by omega), List.getElem?_append_left (by omega)]; exact hy, e⟩
      · rw [List.getElem?_append_right (by omega)] at hx
        exact Or.inl ⟨by rw [List.getElem?_append_right (by omega), List.getElem?_append_right (by omega), ← hlen]; exact hx, Or.inr (by omega)⟩
  have old : ∀ (k : Nat) (x : Nat × va_E), (ws0 ++ (w ++ ws2))[k]? = some x → (k < ws0.length ∨ ws0.length + w.length ≤ k) → ¬ B x.1 := by
    intro k x hx hk9 hb
    obtain ⟨j, y, hy, e⟩ := hB _ hb
    have hj : j < w.length := (List.getElem?_eq_some_iff.mp hy).1
    have hy2 : (ws0 ++ (w ++ ws2))[ws0.length + j]? = some y := by
      rw [List.getElem?_append_right (by omega), List.getElem?_append_left (by omega), show ws0.length + j - ws0.length = j by omega]
      exact hy
    have := hD.1 k (ws0.length + j) x y hx hy2 e.symm
    omega
  refine ⟨fun k x hx => ?_, fun i j x y hi hj hxy => ?_, fun k x hx => ?_⟩
  · rcases key k x hx with ⟨h1, h2⟩ | ⟨j, y, -, h2, -, -⟩
    · exact (hP k x h1).kept (hk x.1 ((hP k x h1).lt) (old k x h1 h2))
    · exact hP1 j x h2
  · have get : ∀ (k : Nat) (x : Nat × va_E), (ws0 ++ (w1 ++ ws2))[k]? = some x → ∃ y, (ws0 ++ (w ++ ws2))[k]? = some y ∧ y.1 = x.1 := fun k x hx => by
      rcases key k x hx with ⟨h1, -⟩ | ⟨j, y, -, -, h3, h4⟩
      · exact ⟨x, h1, rfl⟩
      · exact ⟨y, h3, h4⟩
    obtain ⟨x', a1, e1⟩ := get i x hi
    obtain ⟨y', a2, e2⟩ := get j y hj
    exact hD.1 i j x' y' a1 a2 (by rw [e1, e2, hxy])
  · rcases key k x hx with ⟨h1, -⟩ | ⟨j, y, -, -, h3, h4⟩
    · exact hD.2 k x h1
    · rw [← h4]
      exact hD.2 k y h3
theorem fr_W {sk : SK} {ca ad : Nat → Nat} {h h1 : HS} {ws0 ws2 : va_W} {A : Nat → Prop} {D : va_G} {H H1 : Heap} (hP : va_P D vwCl (ws0 ++ (wld sk ca ad h ++ ws2)) H) (hD : va_D A (ws0 ++ (wld sk ca ad h ++ ws2))) (hP1 : va_P D vwCl (wld sk ca ad h1) H1) (hk : ∀ q : Nat, q < H.size → ¬ adA sk ad q → H1[q]? = H[q]?) : va_P D vwCl (ws0 ++ (wld sk ca ad h1 ++ ws2)) H1 ∧ va_D A (ws0 ++ (wld sk ca ad h1 ++ ws2)) :=
  fr_G (by rw [wld_len, wld_len]) (fun k x hx => by
    obtain ⟨q, h1, rfl⟩ := wld_inv hx
    exact ⟨_, wld_get h1, rfl⟩) (fun q hq => by
    obtain ⟨k, hk9, rfl⟩ := hq
    exact ⟨k, _, wld_get (List.getElem?_eq_getElem hk9), rfl⟩) hP hD hP1 hk
theorem mid_P {ws0 w ws2 : va_W} {D : va_G} {H : Heap} (hP : va_P D vwCl (ws0 ++ (w ++ ws2)) H) : va_P D vwCl w H := fun k x hx => hP (ws0.length + k) x (by
  have hl : k < w.length := (List.getElem?_eq_some_iff.mp hx).1
  rw [List.getElem?_append_right (by omega), show ws0.length + k - ws0.length = k by omega, List.getElem?_append_left hl]
  exact hx)
theorem mid_D {ws0 w ws2 : va_W} {A : Nat → Prop} (hD : va_D A (ws0 ++ (w ++ ws2))) : va_D A w := by
  have at9 : ∀ (k : Nat) (x : Nat × va_E), w[k]? = some x → (ws0 ++ (w ++ ws2))[ws0.length + k]? = some x := fun k x hx => by
    have hl : k < w.length := (List.getElem?_eq_some_iff.mp hx).1
    rw [List.getElem?_append_right (by omega), show ws0.length + k - ws0.length = k by omega, List.getElem?_append_left hl]
    exact hx
  exact ⟨fun i j x y hi hj hxy => by have := hD.1 _ _ x y (at9 i x hi) (at9 j y hj) hxy; omega, fun k x hx => hD.2 _ x (at9 k x hx)⟩
theorem adA_mid {sk : SK} {ca ad : Nat → Nat} {h : HS} {ws0 ws2 : va_W} {A : Nat → Prop} (hD : va_D A (ws0 ++ (wld sk ca ad h ++ ws2))) : ∀ q, adA sk ad q → A q := fun q hq => by
  obtain ⟨k, hk, rfl⟩ := hq
  exact (mid_D hD).2 k _ (wld_get (List.getElem?_eq_getElem hk))
section LO
variable {p : Program} {l : Launch} {e : Env} {R : Room} {s : State} {m : MethodId} {args : Array Value} {below : List Frame} {meth : Method} {c : Code} {D : va_G} {ca ad : Nat → Nat} {A : Nat → Prop} {H : Heap} {locs : List Loc} {ls : Array Slot} {Z : State → Prop} {own : String} {cc : ByteArray} {nL cl sl pc : Nat} {sk : SK} {h h1 : HS} {ws0 ws2 : va_W}
/-- an instance's method of the cells wld sk -/
theorem o_call {y : MethodName} {bytes : ByteArray} {maxL n d1 index a ci : Nat} {rt : Option FieldType} {As st0 rest : List Value} {r : Option Value} {fts : List Nat} {C1 : String} {T1 : u_T} {N1 : Nat} (C : CallFix p m c cc nL s args GW own) (hK : KX D ca s) (hP : va_P D vwCl (ws0 ++ (wld sk ca ad h ++ ws2)) H) (hD : va_D A (ws0 ++ (wld sk ca ad h ++ ws2))) (hS : va_S A s.heap H locs) (hsz : ls.size = nL) (hd : decode cc pc = .ok (.invokevirtual index, 3)) (hw : Cond.methodLink own index y ∈ GW) (hy : YV y bytes maxL rt n) (hC : Cn sk y bytes maxL rt d1 (.ref a :: As) h r h1) (hRf : d1 + 2 ≤ R.frames) (hRl : 60 * (d1 + 2) ≤ R.locals) (hcl9 : cl ≤ R.cells) (hsl9 : sl ≤ R.slots) (hs : sk[a]? = some (0, ci, fts)) (hcl : vwCl[ci]? = some (C1, T1, N1)) (hcy : C1 = y.cls) (hn : As.length = n)
    (hst : (rest.map fun v => v.category).sum ≤ 8) (hsta : st0 = (As.map (tv ad)).reverse ++ .ref (ad a) :: rest) (kk : ∀ (H1 : Heap) (locs1 : List Loc), va_P D vwCl (ws0 ++ (wld sk ca ad h1 ++ ws2)) H1 → va_D A (ws0 ++ (wld sk ca ad h1 ++ ws2)) → va_S A s.heap H1 locs1 → W p l e R s m args below meth c H1 locs1 cl sl Z (F0 m (pc + 3) ls ((r.map (tv ad)).toList ++ rest))) : W p l e R s m args below meth c H locs cl sl Z (F0 m pc ls st0) := by
  subst hsta
  subst hcy
  have hts := C.2.2.2.2
  have hP0 := mid_P hP
  have hD0 := mid_D hD
  have hrun := va_runV (g := F0 m pc ls ((As.map (tv ad)).reverse ++ .ref (ad a) :: rest)) (As := As.map (tv ad)) (b := ad a) (rest := rest) (H := H) (locs := locs) (cells := cl) (slots := sl) (R := R) (below := below) (meth := meth) (e := e) (C := y.cls) (index := index) (n := n) C (hC l D ca ad)
    (cwV n hts (fun w hw' => by
      unfold wsV at hw'
      rcases List.mem_append.mp hw' with h | h
      · rcases List.mem_cons.mp h with rfl | h
        · exact gw_good _ hw
        · rcases List.mem_cons.mp h with rfl | h
          · exact gw_good _ hy.1
          · rcases List.mem_cons.mp h with rfl | h
            · exact gw_good _ hy.2.1
            · rcases List.mem_cons.mp h with rfl | h
              · exact gw_good _ hy.2.2.1
              · cases h
      · exact gw_cons hy.2.2.2.1 w h) rfl rfl rfl ⟨rfl, hy.2.2.2.2.1⟩ ⟨by show d1 + 1 + 1 ≤ R.frames; omega, by show 8 + (maxL + 11) + 60 * (d1 + 1) ≤ R.locals; have := hy.2.2.2.2.2; omega⟩)
    ⟨Cn_blind, va_recv hK.1 hP0 (ci := ci) (q0 := a) hcl (wld_get hs), fun U hU hW => ⟨by simp [tv], by rw [hU]; exact hP0, hK.warm hW, hD0.weaken (fun _ _ _ _ => trivial)⟩⟩ rfl (by simp [hn]) hsz rfl (lv_room hst) hd ⟨by omega, by omega⟩
  intro T hT X
  obtain ⟨v, st₀, t, T', L9, e0, X', hL, e1, e2, ⟨hv, hP1, hz, hk⟩, st⟩ := hrun T hT X
  cases hv
  rw [e0] at hz hk
  have hin := adA_mid hD
  have hS1 : va_S A s.heap T'.heap (locs ++ L9) := ⟨Nat.le_trans hS.1 (by rw [e1]; exact hz), fun q h1 h2 => by
      rw [e1, hk q (Nat.lt_of_lt_of_le h1 hS.1) (fun z => h2 (hin q z))]
      exact hS.2.1 q h1 h2, fun q hq => by
      rcases List.mem_append.mp hq with h | h
      · exact hS.2.2 q h
      · exact hin _ (hL q h)⟩
  obtain ⟨hP2, hD2⟩ := fr_W hP hD hP1 hk
  obtain ⟨t2, a1, b1⟩ := kk T'.heap (locs ++ L9) (by rw [e1]; exact hP2) hD2 hS1 T' rfl X'
  exact ⟨t2, st t2 a1, b1⟩
/-- .. that throws, and is caught by the one row of this method's table -/
theorem o_thr {y : MethodName} {bytes : ByteArray} {maxL n d1 index a ci e9 hpc : Nat} {rt : Option FieldType} {As st0 rest : List Value} {fts : List Nat} {C1 : String} {T1 : u_T} {N1 : Nat} (C : CallFix p m c cc nL s args GW own) (hl0 : l.stackTraces = false) (hK : KX D ca s) (hXE : XE A s s.heap) (hP : va_P D vwCl (ws0 ++ (wld skC ca ad h ++ ws2)) H) (hD : va_D A (ws0 ++ (wld skC ca ad h ++ ws2))) (hS : va_S A s.heap H locs) (hsz : ls.size = nL) (hd : decode cc pc = .ok (.invokevirtual index, 3)) (hw : Cond.methodLink own index y ∈ GW) (hy : YV y bytes maxL rt n) (hC : Xn y bytes maxL rt d1 (.ref a :: As) h h1) (hRf : d1 + 7 ≤ R.frames) (hRl : 60 * (d1 + 3) ≤ R.locals) (hcl9 : cl + 1 ≤ R.cells) (hsl9 : sl + 6 ≤ R.slots) (hs : skC[a]? = some (0, ci, fts)) (hcl : vwCl[ci]? = some (C1, T1, N1)) (hcy : C1 = y.cls) (hn : As.length = n)
    (hst : (rest.map fun v => v.category).sum ≤ 8) (hsta : st0 = (As.map (tv ad)).reverse ++ .ref (ad a) :: rest) (htab : c.exceptionTable.toList = [⟨0, e9, hpc, 13⟩]) (hcov : pc < e9) (hlink : Cond.classLink own 13 NSE ∈ GW) (kk : ∀ (q : Nat) (H1 : Heap) (locs1 : List Loc), va_P D vwCl (ws0 ++ (wld skC ca ad h1 ++ ws2)) H1 → va_D A (ws0 ++ (wld skC ca ad h1 ++ ws2)) → va_S A s.heap H1 locs1 → W p l e R s m args below meth c H1 locs1 (cl + 1) (sl + 6) Z (F0 m hpc ls [.ref q])) : W p l e R s m args below meth c H locs cl sl Z (F0 m pc ls st0) := by
  subst hsta
  subst hcy
  have hts := C.2.2.2.2
  have hP0 := mid_P hP
  have hD0 := mid_D hD
  have hin := adA_mid hD
  have hX0 : XE (adA skC ad) s H := (hXE.kept hS.2.1).narrow hin
  have hbl : FrameBlind (va_Pc ((Value.ref a :: As).map (tv ad)) (fun U => va_P D vwCl (wld skC ca ad h) U.heap ∧ KX D ca U ∧ va_D (fun _ => True) (wld skC ca ad h) ∧ XE (adA skC ad) U U.heap)) := fun a U g mk q => by
    obtain ⟨q0, qP, qK, qD, qX⟩ := q
    exact ⟨q0, qP, qK.call, qD, qX.call⟩
  have hrun := vx_runV (g := F0 m pc ls ((As.map (tv ad)).reverse ++ .ref (ad a) :: rest)) (As := As.map (tv ad)) (b := ad a) (rest := rest) (H := H) (locs := locs) (cells := cl) (slots := sl) (R := R) (below := below) (meth := meth) (e := e) (C := y.cls) (index := index) (n := n) C (hC l hl0 D ca ad)
    (cwV n hts (fun w hw' => by
      unfold wsV at hw'
      rcases List.mem_append.mp hw' with h | h
      · rcases List.mem_cons.mp h with rfl | h
        · exact gw_good _ hw
        · rcases List.mem_cons.mp h with rfl | h
          · exact gw_good _ hy.1
          · rcases List.mem_cons.mp h with rfl | h
            · exact gw_good _ hy.2.1
            · rcases List.mem_cons.mp h with rfl | h
              · exact gw_good _ hy.2.2.1
              · cases h
      · exact gw_cons hy.2.2.2.1 w h) rfl rfl rfl ⟨rfl, hy.2.2.2.2.1⟩ ⟨by show d1 + 6 + 1 ≤ R.frames; omega, by show 8 + (maxL + 11) + 60 * (d1 + 2) ≤ R.locals; have := hy.2.2.2.2.2; omega⟩)
    ⟨hbl, va_recv hK.1 hP0 (ci := ci) (q0 := a) hcl (wld_get hs), fun U hU hW => ⟨by simp [tv], by rw [hU]; exact hP0, hK.warm hW, hD0.weaken (fun _ _ _ _ => trivial), by rw [hU]; exact hX0.warm hW⟩⟩ rfl (by simp [hn]) hsz rfl (lv_room hst) hd ⟨hcl9, hsl9⟩
  intro T hT X
  rcases hrun T hT X with ⟨v, st₀, t, T', L9, e0, X', hL, e1, e2, hF, st⟩ | ⟨q, st₀, t, T', L9, E, ce, e0, X', hL, e1, e2, ⟨rfl, hP1, hz, hk⟩, hce, hcv, hcl1, st⟩
  · exact hF.elim
  rw [e0] at hz hk
  have hS1 : va_S A s.heap T'.heap (locs ++ L9) := ⟨Nat.le_trans hS.1 (by rw [e1]; exact hz), fun q h1 h2 => by
      rw [e1, hk q (Nat.lt_of_lt_of_le h1 hS.1) (fun z => h2 (hin q z))]
      exact hS.2.1 q h1 h2, fun q hq => by
      rcases List.mem_append.mp hq with h | h
      · exact hS.2.2 q h
      · exact hin _ (hL q h)⟩
  obtain ⟨hP2, hD2⟩ := fr_W hP hD hP1 hk
  have hW9 := vx_catch (p := p) (l := l) (e := e) (R := R) (below := below) (meth := meth) (locs := locs ++ L9) (cells := cl + 1) (slots := sl + 6) (Q := Z) (pc := pc) (ls := ls) (rest := rest) (H := T'.heap) (own := own) (name := NSE) (E := NSE) (ce := ce) (q := q) C.2.2.2.1 ⟨0, e9, hpc, 13⟩ htab (by simp [covers, hcov]) (show (13 : Nat) ≠ 0 by decide) (hts _ hlink) (va_Nw.use rfl (hXE.1 _ (List.mem_of_getElem? (i := 0) rfl))) (by rw [e1]; exact hce) hcv hcl1 (kk q T'.heap (locs ++ L9) (by rw [e1]; exact hP2) hD2 hS1)
  obtain ⟨t2, a1, b1⟩ := hW9 T' rfl X'
  exact ⟨t2, st.trans a1, b1⟩
end LO
theorem Met_ofWH {l : Launch} {y : MethodName} {ws ws' : List Cond} {rm : Room} {Pc : Array Value → State → Prop} {Qc : Array Value → State → Outcome → State → Prop} {mc ms : Nat} {free : Addr → Prop} {cc : ByteArray} {maxL : Nat} {ret : Option FieldType} {hh : List (Nat × Nat × Nat × Nat)}
    (hy : plainName y.cls = true) (hw : ws = Cond.codeWith y cc maxL ret hh :: ws')
    (body : ∀ p e s m args below meth c s₁, BodyLoose p l y (headSpec ws rm) cc maxL ret e s m args below meth c s₁ → c.maxLocals = maxL → c.exceptionTable.toList = tableOf hh → Pc args s →
      W p l e (headSpec ws rm).room s m args below meth c s.heap [] 0 0 (MQ below Qc args s mc ms free) (entryFrame m args maxL)) : Met l y ws rm Pc Qc mc ms free := by
  refine MetFree.of_bodyS (code := cc) (maxLocals := maxL) (ret := ret) hy ?_ ?_
  · intro args s m h hn
    obtain ⟨m9, meth, c, hn9, h1, h2, h3, h4, -, h5, h6, -⟩ := Cond.codeWith_spec (atoms_spec (ws := ws) h _ (by rw [hw]; exact List.mem_cons_self))
    cases hn.symm.trans hn9
    exact ⟨meth, c, h1, h2, h3, h4, h5, h6⟩
  · intro p e s m args below meth c s₁ B hml hP _
    have hh0 : s₁.heap = s.heap := by rw [B.state]; rfl
    have ht := vx_table (x := y) B (atoms_spec (ws := ws) B.pre _ (by rw [hw]; exact List.mem_cons_self))
    obtain ⟨t, a1, o, b1, b2, b3⟩ := body p e s m args below meth c s₁ B hml ht hP s₁ hh0 (Stand.of_body B)
    exact ⟨t, o, a1, b1, b2, ⟨b3.1, b3.2⟩⟩
def outE (ca : Nat → Nat) (x : Int64) : va_E := .inl (ca 4, 1, .inr (.inl (fun _ => x)))
def wo (ca ad : Nat → Nat) (ao : Nat) (h : HS) (x : Int64) : va_W := wld skC ca ad h ++ [(ao, outE ca x)]
theorem wo_nil (ca ad : Nat → Nat) (ao : Nat) (h : HS) (x : Int64) : wo ca ad ao h x = [] ++ (wld skC ca ad h ++ [(ao, outE ca x)]) := by
  unfold wo
  exact (List.nil_append _).symm
def oA (ad : Nat → Nat) (ao q : Nat) : Prop := adA skC ad q ∨ q = ao
theorem wo_out {ca ad : Nat → Nat} {ao : Nat} {h : HS} {x : Int64} : (wo ca ad ao h x)[68]? = some (ao, outE ca x) := by
  unfold wo
  rw [List.getElem?_append_right (by rw [wld_len]; decide), wld_len]
  rfl
theorem wo_D {ca ad : Nat → Nat} {ao : Nat} {h : HS} {x : Int64} {A : Nat → Prop} (hD : va_D A (wo ca ad ao h x)) : va_D (oA ad ao) (wo ca ad ao h x) := ⟨hD.1, fun k q hk => by
  unfold wo at hk
  by_cases hl : k < (wld skC ca ad h).length
  · rw [List.getElem?_append_left hl] at hk
    obtain ⟨r, h1, rfl⟩ := wld_inv hk
    exact Or.inl ⟨k, (List.getElem?_eq_some_iff.mp h1).1, rfl⟩
  · rw [List.getElem?_append_right (by omega)] at hk
    have hz : k - (wld skC ca ad h).length < 1 := (List.getElem?_eq_some_iff.mp hk).1
    rw [show k - (wld skC ca ad h).length = 0 by omega] at hk
    cases hk
    exact Or.inr rfl⟩
theorem wo_set {ca ad : Nat → Nat} {ao : Nat} {h : HS} {x x1 : Int64} {f : Nat → Int64} (hf : f 0 = x1) {D : va_G} {H : Heap} (hP : va_P D vwCl ((wo ca ad ao h x).set 68 (ao, .inl (ca 4, 1, .inr (.inl f)))) H) : va_P D vwCl (wo ca ad ao h x1) H := by
  have e : (wo ca ad ao h x).set 68 (ao, .inl (ca 4, 1, .inr (.inl f))) = wld skC ca ad h ++ [(ao, .inl (ca 4, 1, .inr (.inl f)))] := by
    unfold wo
    rw [List.set_append_right _ _ (by rw [wld_len]; decide), wld_len]
    rfl
  rw [e] at hP
  intro k q hk
  unfold wo at hk
  by_cases hl : k < (wld skC ca ad h).length
  · exact hP k q (by rw [List.getElem?_append_left hl] at hk ⊢; exact hk)
  · have hz : k - (wld skC ca ad h).length < 1 := by
      rw [List.getElem?_append_right (by omega)] at hk
      exact (List.getElem?_eq_some_iff.mp hk).1
    have h9 := hP k (ao, .inl (ca 4, 1, .inr (.inl f))) (by
      rw [List.getElem?_append_right (by omega), show k - (wld skC ca ad h).length = 0 by omega]
      rfl)
    rw [List.getElem?_append_right (by omega), show k - (wld skC ca ad h).length = 0 by omega] at hk
    cases hk
    have h8 : H[ao]? = some (vp_cell (ca 4) (1, .inr (.inl f))) := h9
    show H[ao]? = some (vp_cell (ca 4) (1, .inr (.inl (fun _ => x1))))
    rw [h8]
    refine congrArg some ?_
    show arrV (ca 4) 1 (fun j => .long (f j)) = arrV (ca 4) 1 (fun _ => .long x1)
    refine arrV_eq fun j hj => ?_
    rw [show j = 0 by omega, hf]
def rmH (d : Nat) : Room := { frames := d + 8, cells := 1, slots := 6, locals := 60 * (d + 4) }
theorem lk13 : Cond.classLink RL 13 NSE ∈ GW := gwt_6 28 (by decide +kernel) rfl
theorem dL_of_0 : decode cL_of 0 = .ok (.aload_n 3, 1) := by decide +kernel
theorem dL_of_1 : decode cL_of 1 = .ok (.iconst 0, 1) := by decide +kernel
theorem dL_of_2 : decode cL_of 2 = .ok (.aload_n 0, 1) := by decide +kernel
theorem dL_of_3 : decode cL_of 3 = .ok (.iload_n 1, 1) := by decide +kernel
theorem dL_of_4 : decode cL_of 4 = .ok (.iload_n 2, 1) := by decide +kernel
theorem dL_of_5 : decode cL_of 5 = .ok (.invokevirtual 7, 3) := by decide +kernel
theorem dL_of_8 : decode cL_of 8 = .ok (.i2l, 1) := by decide +kernel
theorem dL_of_9 : decode cL_of 9 = .ok (.lastore, 1) := by decide +kernel
theorem dL_of_10 : decode cL_of 10 = .ok (.goto 7, 3) := by decide +kernel
theorem dL_of_13 : decode cL_of 13 = .ok (.astore 4, 2) := by decide +kernel
theorem dL_of_15 : decode cL_of 15 = .ok (.iconst 1, 1) := by decide +kernel
theorem dL_of_16 : decode cL_of 16 = .ok (.ireturn, 1) := by decide +kernel
theorem dL_of_17 : decode cL_of 17 = .ok (.iconst 0, 1) := by decide +kernel
theorem dL_of_18 : decode cL_of 18 = .ok (.ireturn, 1) := by decide +kernel
theorem lm_of : Cond.methodLink RL 7 yX11_of ∈ GW := gwt_6 29 (by decide +kernel) rfl
theorem wyX11_of : YV yX11_of cX11_of 3 (some .int) 2 := ⟨gwt_6 30 (by decide +kernel) rfl, gwt_6 31 (by decide +kernel) rfl, gwt_1 1 (by decide +kernel) rfl, gwt_6 32 (by decide +kernel) rfl, by decide +kernel, by decide⟩
set_option maxHeartbeats 400000 in
set_option maxRecDepth 20000 in
theorem hp_of (l : Launch) (hl0 : l.stackTraces = false) (D : va_G) (ca ad : Nat → Nat) (ao : Nat) (h h1 : HS) (p1 p2 k : Int32) (x x1 : Int64) (hh : (∃ r, fX11_of p1 p2 h = some (r, h1) ∧ k = 0 ∧ x1 = r.toInt64) ∨ ((fX11_of_x11 p1 p2 h = some h1 ∨ fX11_of_x106 p1 p2 h = some h1) ∧ k = 1 ∧ x1 = x)) :
    Met l yL_of (.codeWith yL_of cL_of 5 (some .int) [(0, 10, 13, 13)] :: GW) (rmH 1) (va_Pc [.ref (ad 0), .int p1, .int p2, .ref ao] (fun U => va_P D vwCl (wo ca ad ao h x) U.heap ∧ KX D ca U ∧ va_D (fun _ => True) (wo ca ad ao h x) ∧ XE (oA ad ao) U U.heap)) (fun _ st oc t => oc = .returned (some (.int k)) ∧ va_P D vwCl (wo ca ad ao h1 x1) t.heap ∧ va_F (oA ad ao) st t) 1 6 (oA ad ao) := by
  refine Met_ofWH (cc := cL_of) (maxL := 5) (ret := some .int) (hh := [(0, 10, 13, 13)]) (by decide +kernel) rfl ?_
  intro p e s m args below meth c s₁ B hml htab hv
  obtain ⟨rfl, hP, hK, hD0, hXE⟩ := hv
  have hx := B.exec
  have hb := B.bytes
  have hr := B.returns
  have hts : ∀ w ∈ GW, w.before ([.ref (ad 0), .int p1, .int p2, .ref ao] : List Value).toArray s = true := fun w hw => atoms_spec (ws := .codeWith yL_of cL_of 5 (some .int) [(0, 10, 13, 13)] :: GW) B.pre w (List.mem_cons_of_mem _ hw)
  have hown : s.vm.findClass RL = some m.cls := findClass_of_methodNamed B.named
  have hlocks := B.notSynchronized
  have hD := wo_D hD0
  have hS : va_S (oA ad ao) s.heap s.heap [] := va_S.rf
  have hl := lv_entry ([.ref (ad 0), .int p1, .int p2, .ref ao] : List Value) (n := 5) (Nat.le_of_ble_eq_true rfl)
  rw [lg_entry_eq]
  generalize (lg_sl ([.ref (ad 0), .int p1, .int p2, .ref ao] : List Value) ++ List.replicate (5 - (lg_sl ([.ref (ad 0), .int p1, .int p2, .ref ao] : List Value)).length) Slot.unset).toArray = ls at hl ⊢
  have hl : lv_has ls 5 [(0, .ref (ad 0)), (1, .int p1), (2, .int p2), (3, .ref ao)] := hl
  have C : CallFix p m c cL_of 5 s ([.ref (ad 0), .int p1, .int p2, .ref ao] : List Value).toArray GW RL := ⟨hx, hb, hml, hown, hts⟩
  refine lv_aload_n hx hb dL_of_0 rfl (lv_at hl 3 rfl) ?_
  refine lv_iconst (v := 0) hx hb dL_of_1 (by decide) ?_
  refine lv_aload_n hx hb dL_of_2 rfl (lv_at hl 0 rfl) ?_
  refine lv_iload_n hx hb dL_of_3 rfl (lv_at hl 1 rfl) ?_
  refine lv_iload_n hx hb dL_of_4 rfl (lv_at hl 2 rfl) ?_
  rw [wo_nil] at hP hD
  rcases hh with ⟨r, hf, rfl, rfl⟩ | ⟨hf, rfl, rfl⟩
  · refine o_call (ws0 := []) (ws2 := [(ao, outE ca x)]) (As := [.int p1, .int p2]) (a := 0) (d1 := 1) C hK hP hD hS hl.1 dL_of_5 lm_of wyX11_of (tX11_of hf) (show 1 + 2 ≤ 1 + 8 by omega) (show 60 * (1 + 2) ≤ 60 * (1 + 4) by omega) (Nat.zero_le _) (Nat.zero_le _) rfl rfl rfl rfl (by simp [Value.category]) rfl (fun H1 locs1 hP1 hD1 hS1 => ?_)
    rw [← wo_nil] at hP1 hD1
    refine W.eq (g2 := F0 m 8 ls [.int r, .int 0, .ref ao]) rfl ?_
    refine lv_i2l hx hb dL_of_8 rfl ?_
    refine va_last hx hb hK.1 hP1 hD1 hS1 68 3 wo_out rfl (inb_in (i := 0) (n := 1) (by decide)) dL_of_9 (fun H2 locs2 hP2 hD2 hS2 => ?_)
    refine lv_goto (tgt := 17) hx hb dL_of_10 (by decide) ?_
    refine lv_iconst (v := 0) hx hb dL_of_17 (by decide) ?_
    refine W.widen (k := 1) (n := 6) (Nat.zero_le _) (Nat.zero_le _) ?_
    exact W.iret hx hb hr (fun t ht hW => ⟨rfl, by rw [ht]; exact wo_set (x1 := r.toInt64) (by rfl) hP2, hS2.F ht⟩) hS2.2.2 dL_of_18
  · have hxn : Xn yX11_of cX11_of 3 (some .int) 1 [.ref 0, .int p1, .int p2] h h1 := by
      rcases hf with hf | hf
      · exact zX11_of_x11 hf
      · exact zX11_of_x106 hf
    refine o_thr (ws0 := []) (ws2 := [(ao, outE ca x1)]) (As := [.int p1, .int p2]) (a := 0) (d1 := 1) C hl0 hK hXE hP hD hS hl.1 dL_of_5 lm_of wyX11_of hxn (show 1 + 7 ≤ 1 + 8 by omega) (show 60 * (1 + 3) ≤ 60 * (1 + 4) by omega) (Nat.le_refl _) (Nat.le_refl _) rfl rfl rfl rfl (by simp [Value.category]) rfl htab (by decide) lk13 (fun q H1 locs1 hP1 hD1 hS1 => ?_)
    rw [← wo_nil] at hP1 hD1
    refine lv_astore (lv' := [(4, .ref q), (0, .ref (ad 0)), (1, .int p1), (2, .int p2), (3, .ref ao)]) hx hb dL_of_13 hl (by decide) rfl (fun ls hl => ?_)
    refine lv_iconst (v := 1) hx hb dL_of_15 (by decide) ?_
    exact W.iret hx hb hr (fun t ht hW => ⟨rfl, by rw [ht]; exact hP1, hS1.F ht⟩) hS1.2.2 dL_of_16
theorem dL_heavy_0 : decode cL_heavy 0 = .ok (.aload_n 2, 1) := by decide +kernel
theorem dL_heavy_1 : decode cL_heavy 1 = .ok (.iconst 0, 1) := by decide +kernel
theorem dL_heavy_2 : decode cL_heavy 2 = .ok (.aload_n 0, 1) := by decide +kernel
theorem dL_heavy_3 : decode cL_heavy 3 = .ok (.iload_n 1, 1) := by decide +kernel
theorem dL_heavy_4 : decode cL_heavy 4 = .ok (.invokevirtual 15, 3) := by decide +kernel
theorem dL_heavy_7 : decode cL_heavy 7 = .ok (.i2l, 1) := by decide +kernel
theorem dL_heavy_8 : decode cL_heavy 8 = .ok (.lastore, 1) := by decide +kernel
theorem dL_heavy_9 : decode cL_heavy 9 = .ok (.goto 6, 3) := by decide +kernel
theorem dL_heavy_12 : decode cL_heavy 12 = .ok (.astore_n 3, 1) := by decide +kernel
theorem dL_heavy_13 : decode cL_heavy 13 = .ok (.iconst 1, 1) := by decide +kernel
theorem dL_heavy_14 : decode cL_heavy 14 = .ok (.ireturn, 1) := by decide +kernel
theorem dL_heavy_15 : decode cL_heavy 15 = .ok (.iconst 0, 1) := by decide +kernel
theorem dL_heavy_16 : decode cL_heavy 16 = .ok (.ireturn, 1) := by decide +kernel
theorem lm_heavy : Cond.methodLink RL 15 yX11_heavy ∈ GW := gwt_6 103 (by decide +kernel) rfl
theorem wyX11_heavy : YV yX11_heavy cX11_heavy 2 (some .int) 1 := ⟨gwt_6 104 (by decide +kernel) rfl, gwt_6 105 (by decide +kernel) rfl, gwt_1 1 (by decide +kernel) rfl, gwt_6 106 (by decide +kernel) rfl, by decide +kernel, by decide⟩
set_option maxHeartbeats 400000 in
set_option maxRecDepth 20000 in
theorem hp_heavy (l : Launch) (hl0 : l.stackTraces = false) (D : va_G) (ca ad : Nat → Nat) (ao : Nat) (h h1 : HS) (p1 k : Int32) (x x1 : Int64) (hh : (∃ r, fX11_heavy p1 h = some (r, h1) ∧ k = 0 ∧ x1 = r.toInt64) ∨ ((fX11_heavy_x7 p1 h = some h1) ∧ k = 1 ∧ x1 = x)) :
    Met l yL_heavy (.codeWith yL_heavy cL_heavy 4 (some .int) [(0, 9, 12, 13)] :: GW) (rmH 3) (va_Pc [.ref (ad 0), .int p1, .ref ao] (fun U => va_P D vwCl (wo ca ad ao h x) U.heap ∧ KX D ca U ∧ va_D (fun _ => True) (wo ca ad ao h x) ∧ XE (oA ad ao) U U.heap)) (fun _ st oc t => oc = .returned (some (.int k)) ∧ va_P D vwCl (wo ca ad ao h1 x1) t.heap ∧ va_F (oA ad ao) st t) 1 6 (oA ad ao) := by
  refine Met_ofWH (cc := cL_heavy) (maxL := 4) (ret := some .int) (hh := [(0, 9, 12, 13)]) (by decide +kernel) rfl ?_
  intro p e s m args below meth c s₁ B hml htab hv
  obtain ⟨rfl, hP, hK, hD0, hXE⟩ := hv
  have hx := B.exec
  have hb := B.bytes
  have hr := B.returns
  have hts : ∀ w ∈ GW, w.before ([.ref (ad 0), .int p1, .ref ao] : List Value).toArray s = true := fun w hw => atoms_spec (ws := .codeWith yL_heavy cL_heavy 4 (some .int) [(0, 9, 12, 13)] :: GW) B.pre w (List.mem_cons_of_mem _ hw)
  have hown : s.vm.findClass RL = some m.cls := findClass_of_methodNamed B.named
  have hlocks := B.notSynchronized
  have hD := wo_D hD0
  have hS : va_S (oA ad ao) s.heap s.heap [] := va_S.rf
  have hl := lv_entry ([.ref (ad 0), .int p1, .ref ao] : List Value) (n := 4) (Nat.le_of_ble_eq_true rfl)
  rw [lg_entry_eq]
  generalize (lg_sl ([.ref (ad 0), .int p1, .ref ao] : List Value) ++ List.replicate (4 - (lg_sl ([.ref (ad 0), .int p1, .ref ao] : List Value)).length) Slot.unset).toArray = ls at hl ⊢
  have hl : lv_has ls 4 [(0, .ref (ad 0)), (1, .int p1), (2, .ref ao)] := hl
  have C : CallFix p m c cL_heavy 4 s ([.ref (ad 0), .int p1, .ref ao] : List Value).toArray GW RL := ⟨hx, hb, hml, hown, hts⟩
  refine lv_aload_n hx hb dL_heavy_0 rfl (lv_at hl 2 rfl) ?_
  refine lv_iconst (v := 0) hx hb dL_heavy_1 (by decide) ?_
  refine lv_aload_n hx hb dL_heavy_2 rfl (lv_at hl 0 rfl) ?_
  refine lv_iload_n hx hb dL_heavy_3 rfl (lv_at hl 1 rfl) ?_
  rw [wo_nil] at hP hD
  rcases hh with ⟨r, hf, rfl, rfl⟩ | ⟨hf, rfl, rfl⟩
  · refine o_call (ws0 := []) (ws2 := [(ao, outE ca x)]) (As := [.int p1]) (a := 0) (d1 := 3) C hK hP hD hS hl.1 dL_heavy_4 lm_heavy wyX11_heavy (tX11_heavy hf) (show 3 + 2 ≤ 3 + 8 by omega) (show 60 * (3 + 2) ≤ 60 * (3 + 4) by omega) (Nat.zero_le _) (Nat.zero_le _) rfl rfl rfl rfl (by simp [Value.category]) rfl (fun H1 locs1 hP1 hD1 hS1 => ?_)
    rw [← wo_nil] at hP1 hD1
    refine W.eq (g2 := F0 m 7 ls [.int r, .int 0, .ref ao]) rfl ?_
    refine lv_i2l hx hb dL_heavy_7 rfl ?_
    refine va_last hx hb hK.1 hP1 hD1 hS1 68 3 wo_out rfl (inb_in (i := 0) (n := 1) (by decide)) dL_heavy_8 (fun H2 locs2 hP2 hD2 hS2 => ?_)
    refine lv_goto (tgt := 15) hx hb dL_heavy_9 (by decide) ?_
    refine lv_iconst (v := 0) hx hb dL_heavy_15 (by decide) ?_
    refine W.widen (k := 1) (n := 6) (Nat.zero_le _) (Nat.zero_le _) ?_
    exact W.iret hx hb hr (fun t ht hW => ⟨rfl, by rw [ht]; exact wo_set (x1 := r.toInt64) (by rfl) hP2, hS2.F ht⟩) hS2.2.2 dL_heavy_16
  · refine o_thr (ws0 := []) (ws2 := [(ao, outE ca x1)]) (As := [.int p1]) (a := 0) (d1 := 3) C hl0 hK hXE hP hD hS hl.1 dL_heavy_4 lm_heavy wyX11_heavy (zX11_heavy_x7 hf) (show 3 + 7 ≤ 3 + 8 by omega) (show 60 * (3 + 3) ≤ 60 * (3 + 4) by omega) (Nat.le_refl _) (Nat.le_refl _) rfl rfl rfl rfl (by simp [Value.category]) rfl htab (by decide) lk13 (fun q H1 locs1 hP1 hD1 hS1 => ?_)
    rw [← wo_nil] at hP1 hD1
    refine lv_astore_n (lv' := [(3, .ref q), (0, .ref (ad 0)), (1, .int p1), (2, .ref ao)]) hx hb dL_heavy_12 rfl hl (by decide) rfl (fun ls hl => ?_)
    refine lv_iconst (v := 1) hx hb dL_heavy_13 (by decide) ?_
    exact W.iret hx hb hr (fun t ht hW => ⟨rfl, by rw [ht]; exact hP1, hS1.F ht⟩) hS1.2.2 dL_heavy_14
theorem dL_moment_0 : decode cL_moment 0 = .ok (.aload_n 2, 1) := by decide +kernel
theorem dL_moment_1 : decode cL_moment 1 = .ok (.iconst 0, 1) := by decide +kernel
theorem dL_moment_2 : decode cL_moment 2 = .ok (.aload_n 0, 1) := by decide +kernel
theorem dL_moment_3 : decode cL_moment 3 = .ok (.iload_n 1, 1) := by decide +kernel
theorem dL_moment_4 : decode cL_moment 4 = .ok (.invokevirtual 19, 3) := by decide +kernel
theorem dL_moment_7 : decode cL_moment 7 = .ok (.i2l, 1) := by decide +kernel
theorem dL_moment_8 : decode cL_moment 8 = .ok (.lastore, 1) := by decide +kernel
theorem dL_moment_9 : decode cL_moment 9 = .ok (.goto 6, 3) := by decide +kernel
theorem dL_moment_12 : decode cL_moment 12 = .ok (.astore_n 3, 1) := by decide +kernel
theorem dL_moment_13 : decode cL_moment 13 = .ok (.iconst 1, 1) := by decide +kernel
theorem dL_moment_14 : decode cL_moment 14 = .ok (.ireturn, 1) := by decide +kernel
theorem dL_moment_15 : decode cL_moment 15 = .ok (.iconst 0, 1) := by decide +kernel
theorem dL_moment_16 : decode cL_moment 16 = .ok (.ireturn, 1) := by decide +kernel
theorem lm_moment : Cond.methodLink RL 19 yX11_moment ∈ GW := gwt_6 111 (by decide +kernel) rfl
theorem wyX11_moment : YV yX11_moment cX11_moment 2 (some .int) 1 := ⟨gwt_6 112 (by decide +kernel) rfl, gwt_6 113 (by decide +kernel) rfl, gwt_1 1 (by decide +kernel) rfl, gwt_6 114 (by decide +kernel) rfl, by decide +kernel, by decide⟩
set_option maxHeartbeats 400000 in
set_option maxRecDepth 20000 in
theorem hp_moment (l : Launch) (hl0 : l.stackTraces = false) (D : va_G) (ca ad : Nat → Nat) (ao : Nat) (h h1 : HS) (p1 k : Int32) (x x1 : Int64) (hh : (∃ r, fX11_moment p1 h = some (r, h1) ∧ k = 0 ∧ x1 = r.toInt64) ∨ ((fX11_moment_x9 p1 h = some h1) ∧ k = 1 ∧ x1 = x)) :
    Met l yL_moment (.codeWith yL_moment cL_moment 4 (some .int) [(0, 9, 12, 13)] :: GW) (rmH 2) (va_Pc [.ref (ad 0), .int p1, .ref ao] (fun U => va_P D vwCl (wo ca ad ao h x) U.heap ∧ KX D ca U ∧ va_D (fun _ => True) (wo ca ad ao h x) ∧ XE (oA ad ao) U U.heap)) (fun _ st oc t => oc = .returned (some (.int k)) ∧ va_P D vwCl (wo ca ad ao h1 x1) t.heap ∧ va_F (oA ad ao) st t) 1 6 (oA ad ao) := by
  refine Met_ofWH (cc := cL_moment) (maxL := 4) (ret := some .int) (hh := [(0, 9, 12, 13)]) (by decide +kernel) rfl ?_
  intro p e s m args below meth c s₁ B hml htab hv
  obtain ⟨rfl, hP, hK, hD0, hXE⟩ := hv
  have hx := B.exec
  have hb := B.bytes
  have hr := B.returns
  have hts : ∀ w ∈ GW, w.before ([.ref (ad 0), .int p1, .ref ao] : List Value).toArray s = true := fun w hw => atoms_spec (ws := .codeWith yL_moment cL_moment 4 (some .int) [(0, 9, 12, 13)] :: GW) B.pre w (List.mem_cons_of_mem _ hw)
  have hown : s.vm.findClass RL = some m.cls := findClass_of_methodNamed B.named
  have hlocks := B.notSynchronized
  have hD := wo_D hD0
  have hS : va_S (oA ad ao) s.heap s.heap [] := va_S.rf
  have hl := lv_entry ([.ref (ad 0), .int p1, .ref ao] : List Value) (n := 4) (Nat.le_of_ble_eq_true rfl)
  rw [lg_entry_eq]
  generalize (lg_sl ([.ref (ad 0), .int p1, .ref ao] : List Value) ++ List.replicate (4 - (lg_sl ([.ref (ad 0), .int p1, .ref ao] : List Value)).length) Slot.unset).toArray = ls at hl ⊢
  have hl : lv_has ls 4 [(0, .ref (ad 0)), (1, .int p1), (2, .ref ao)] := hl
  have C : CallFix p m c cL_moment 4 s ([.ref (ad 0), .int p1, .ref ao] : List Value).toArray GW RL := ⟨hx, hb, hml, hown, hts⟩
  refine lv_aload_n hx hb dL_moment_0 rfl (lv_at hl 2 rfl) ?_
  refine lv_iconst (v := 0) hx hb dL_moment_1 (by decide) ?_
  refine lv_aload_n hx hb dL_moment_2 rfl (lv_at hl 0 rfl) ?_
  refine lv_iload_n hx hb dL_moment_3 rfl (lv_at hl 1 rfl) ?_
  rw [wo_nil] at hP hD
  rcases hh with ⟨r, hf, rfl, rfl⟩ | ⟨hf, rfl, rfl⟩
  · refine o_call (ws0 := []) (ws2 := [(ao, outE ca x)]) (As := [.int p1]) (a := 0) (d1 := 2) C hK hP hD hS hl.1 dL_moment_4 lm_moment wyX11_moment (tX11_moment hf) (show 2 + 2 ≤ 2 + 8 by omega) (show 60 * (2 + 2) ≤ 60 * (2 + 4) by omega) (Nat.zero_le _) (Nat.zero_le _) rfl rfl rfl rfl (by simp [Value.category]) rfl (fun H1 locs1 hP1 hD1 hS1 => ?_)
    rw [← wo_nil] at hP1 hD1
    refine W.eq (g2 := F0 m 7 ls [.int r, .int 0, .ref ao]) rfl ?_
    refine lv_i2l hx hb dL_moment_7 rfl ?_
    refine va_last hx hb hK.1 hP1 hD1 hS1 68 3 wo_out rfl (inb_in (i := 0) (n := 1) (by decide)) dL_moment_8 (fun H2 locs2 hP2 hD2 hS2 => ?_)
    refine lv_goto (tgt := 15) hx hb dL_moment_9 (by decide) ?_
    refine lv_iconst (v := 0) hx hb dL_moment_15 (by decide) ?_
    refine W.widen (k := 1) (n := 6) (Nat.zero_le _) (Nat.zero_le _) ?_
    exact W.iret hx hb hr (fun t ht hW => ⟨rfl, by rw [ht]; exact wo_set (x1 := r.toInt64) (by rfl) hP2, hS2.F ht⟩) hS2.2.2 dL_moment_16
  · refine o_thr (ws0 := []) (ws2 := [(ao, outE ca x1)]) (As := [.int p1]) (a := 0) (d1 := 2) C hl0 hK hXE hP hD hS hl.1 dL_moment_4 lm_moment wyX11_moment (zX11_moment_x9 hf) (show 2 + 7 ≤ 2 + 8 by omega) (show 60 * (2 + 3) ≤ 60 * (2 + 4) by omega) (Nat.le_refl _) (Nat.le_refl _) rfl rfl rfl rfl (by simp [Value.category]) rfl htab (by decide) lk13 (fun q H1 locs1 hP1 hD1 hS1 => ?_)
    rw [← wo_nil] at hP1 hD1
    refine lv_astore_n (lv' := [(3, .ref q), (0, .ref (ad 0)), (1, .int p1), (2, .ref ao)]) hx hb dL_moment_12 rfl hl (by decide) rfl (fun ls hl => ?_)
    refine lv_iconst (v := 1) hx hb dL_moment_13 (by decide) ?_
    exact W.iret hx hb hr (fun t ht hW => ⟨rfl, by rw [ht]; exact hP1, hS1.F ht⟩) hS1.2.2 dL_moment_14
theorem dL_line_0 : decode cL_line 0 = .ok (.aload_n 2, 1) := by decide +kernel
theorem dL_line_1 : decode cL_line 1 = .ok (.iconst 0, 1) := by decide +kernel
theorem dL_line_2 : decode cL_line 2 = .ok (.aload_n 0, 1) := by decide +kernel
theorem dL_line_3 : decode cL_line 3 = .ok (.iload_n 1, 1) := by decide +kernel
theorem dL_line_4 : decode cL_line 4 = .ok (.invokevirtual 22, 3) := by decide +kernel
theorem dL_line_7 : decode cL_line 7 = .ok (.i2l, 1) := by decide +kernel
theorem dL_line_8 : decode cL_line 8 = .ok (.lastore, 1) := by decide +kernel
theorem dL_line_9 : decode cL_line 9 = .ok (.goto 6, 3) := by decide +kernel
theorem dL_line_12 : decode cL_line 12 = .ok (.astore_n 3, 1) := by decide +kernel
theorem dL_line_13 : decode cL_line 13 = .ok (.iconst 1, 1) := by decide +kernel
theorem dL_line_14 : decode cL_line 14 = .ok (.ireturn, 1) := by decide +kernel
theorem dL_line_15 : decode cL_line 15 = .ok (.iconst 0, 1) := by decide +kernel
theorem dL_line_16 : decode cL_line 16 = .ok (.ireturn, 1) := by decide +kernel
theorem lm_line : Cond.methodLink RL 22 yX11_line ∈ GW := gwt_6 119 (by decide +kernel) rfl
theorem wyX11_line : YV yX11_line cX11_line 2 (some .int) 1 := ⟨gwt_6 120 (by decide +kernel) rfl, gwt_6 121 (by decide +kernel) rfl, gwt_1 1 (by decide +kernel) rfl, gwt_6 122 (by decide +kernel) rfl, by decide +kernel, by decide⟩
set_option maxHeartbeats 400000 in
set_option maxRecDepth 20000 in
theorem hp_line (l : Launch) (hl0 : l.stackTraces = false) (D : va_G) (ca ad : Nat → Nat) (ao : Nat) (h h1 : HS) (p1 k : Int32) (x x1 : Int64) (hh : (∃ r, fX11_line p1 h = some (r, h1) ∧ k = 0 ∧ x1 = r.toInt64) ∨ ((fX11_line_x17 p1 h = some h1) ∧ k = 1 ∧ x1 = x)) :
    Met l yL_line (.codeWith yL_line cL_line 4 (some .int) [(0, 9, 12, 13)] :: GW) (rmH 32) (va_Pc [.ref (ad 0), .int p1, .ref ao] (fun U => va_P D vwCl (wo ca ad ao h x) U.heap ∧ KX D ca U ∧ va_D (fun _ => True) (wo ca ad ao h x) ∧ XE (oA ad ao) U U.heap)) (fun _ st oc t => oc = .returned (some (.int k)) ∧ va_P D vwCl (wo ca ad ao h1 x1) t.heap ∧ va_F (oA ad ao) st t) 1 6 (oA ad ao) := by
  refine Met_ofWH (cc := cL_line) (maxL := 4) (ret := some .int) (hh := [(0, 9, 12, 13)]) (by decide +kernel) rfl ?_
  intro p e s m args below meth c s₁ B hml htab hv
  obtain ⟨rfl, hP, hK, hD0, hXE⟩ := hv
  have hx := B.exec
  have hb := B.bytes
  have hr := B.returns
  have hts : ∀ w ∈ GW, w.before ([.ref (ad 0), .int p1, .ref ao] : List Value).toArray s = true := fun w hw => atoms_spec (ws := .codeWith yL_line cL_line 4 (some .int) [(0, 9, 12, 13)] :: GW) B.pre w (List.mem_cons_of_mem _ hw)
  have hown : s.vm.findClass RL = some m.cls := findClass_of_methodNamed B.named
  have hlocks := B.notSynchronized
  have hD := wo_D hD0
  have hS : va_S (oA ad ao) s.heap s.heap [] := va_S.rf
  have hl := lv_entry ([.ref (ad 0), .int p1, .ref ao] : List Value) (n := 4) (Nat.le_of_ble_eq_true rfl)
  rw [lg_entry_eq]
  generalize (lg_sl ([.ref (ad 0), .int p1, .ref ao] : List Value) ++ List.replicate (4 - (lg_sl ([.ref (ad 0), .int p1, .ref ao] : List Value)).length) Slot.unset).toArray = ls at hl ⊢
  have hl : lv_has ls 4 [(0, .ref (ad 0)), (1, .int p1), (2, .ref ao)] := hl
  have C : CallFix p m c cL_line 4 s ([.ref (ad 0), .int p1, .ref ao] : List Value).toArray GW RL := ⟨hx, hb, hml, hown, hts⟩
  refine lv_aload_n hx hb dL_line_0 rfl (lv_at hl 2 rfl) ?_
  refine lv_iconst (v := 0) hx hb dL_line_1 (by decide) ?_
  refine lv_aload_n hx hb dL_line_2 rfl (lv_at hl 0 rfl) ?_
  refine lv_iload_n hx hb dL_line_3 rfl (lv_at hl 1 rfl) ?_
  rw [wo_nil] at hP hD
  rcases hh with ⟨r, hf, rfl, rfl⟩ | ⟨hf, rfl, rfl⟩
  · refine o_call (ws0 := []) (ws2 := [(ao, outE ca x)]) (As := [.int p1]) (a := 0) (d1 := 32) C hK hP hD hS hl.1 dL_line_4 lm_line wyX11_line (tX11_line hf) (show 32 + 2 ≤ 32 + 8 by omega) (show 60 * (32 + 2) ≤ 60 * (32 + 4) by omega) (Nat.zero_le _) (Nat.zero_le _) rfl rfl rfl rfl (by simp [Value.category]) rfl (fun H1 locs1 hP1 hD1 hS1 => ?_)
    rw [← wo_nil] at hP1 hD1
    refine W.eq (g2 := F0 m 7 ls [.int r, .int 0, .ref ao]) rfl ?_
    refine lv_i2l hx hb dL_line_7 rfl ?_
    refine va_last hx hb hK.1 hP1 hD1 hS1 68 3 wo_out rfl (inb_in (i := 0) (n := 1) (by decide)) dL_line_8 (fun H2 locs2 hP2 hD2 hS2 => ?_)
    refine lv_goto (tgt := 15) hx hb dL_line_9 (by decide) ?_
    refine lv_iconst (v := 0) hx hb dL_line_15 (by decide) ?_
    refine W.widen (k := 1) (n := 6) (Nat.zero_le _) (Nat.zero_le _) ?_
    exact W.iret hx hb hr (fun t ht hW => ⟨rfl, by rw [ht]; exact wo_set (x1 := r.toInt64) (by rfl) hP2, hS2.F ht⟩) hS2.2.2 dL_line_16
  · refine o_thr (ws0 := []) (ws2 := [(ao, outE ca x1)]) (As := [.int p1]) (a := 0) (d1 := 32) C hl0 hK hXE hP hD hS hl.1 dL_line_4 lm_line wyX11_line (zX11_line_x17 hf) (show 32 + 7 ≤ 32 + 8 by omega) (show 60 * (32 + 3) ≤ 60 * (32 + 4) by omega) (Nat.le_refl _) (Nat.le_refl _) rfl rfl rfl rfl (by simp [Value.category]) rfl htab (by decide) lk13 (fun q H1 locs1 hP1 hD1 hS1 => ?_)
    rw [← wo_nil] at hP1 hD1
    refine lv_astore_n (lv' := [(3, .ref q), (0, .ref (ad 0)), (1, .int p1), (2, .ref ao)]) hx hb dL_line_12 rfl hl (by decide) rfl (fun ls hl => ?_)
    refine lv_iconst (v := 1) hx hb dL_line_13 (by decide) ?_
    exact W.iret hx hb hr (fun t ht hW => ⟨rfl, by rw [ht]; exact hP1, hS1.F ht⟩) hS1.2.2 dL_line_14
theorem dL_tells_0 : decode cL_tells 0 = .ok (.aload 5, 2) := by decide +kernel
theorem dL_tells_2 : decode cL_tells 2 = .ok (.iconst 0, 1) := by decide +kernel
theorem dL_tells_3 : decode cL_tells 3 = .ok (.aload_n 0, 1) := by decide +kernel
theorem dL_tells_4 : decode cL_tells 4 = .ok (.iload_n 1, 1) := by decide +kernel
theorem dL_tells_5 : decode cL_tells 5 = .ok (.iload_n 2, 1) := by decide +kernel
theorem dL_tells_6 : decode cL_tells 6 = .ok (.iload_n 3, 1) := by decide +kernel
theorem dL_tells_7 : decode cL_tells 7 = .ok (.iload 4, 2) := by decide +kernel
theorem dL_tells_9 : decode cL_tells 9 = .ok (.invokevirtual 25, 3) := by decide +kernel
theorem dL_tells_12 : decode cL_tells 12 = .ok (.i2l, 1) := by decide +kernel
theorem dL_tells_13 : decode cL_tells 13 = .ok (.lastore, 1) := by decide +kernel
theorem dL_tells_14 : decode cL_tells 14 = .ok (.goto 7, 3) := by decide +kernel
theorem dL_tells_17 : decode cL_tells 17 = .ok (.astore 6, 2) := by decide +kernel
theorem dL_tells_19 : decode cL_tells 19 = .ok (.iconst 1, 1) := by decide +kernel
theorem dL_tells_20 : decode cL_tells 20 = .ok (.ireturn, 1) := by decide +kernel
theorem dL_tells_21 : decode cL_tells 21 = .ok (.iconst 0, 1) := by decide +kernel
theorem dL_tells_22 : decode cL_tells 22 = .ok (.ireturn, 1) := by decide +kernel
theorem lm_tells : Cond.methodLink RL 25 yX11_tells ∈ GW := gwt_6 128 (by decide +kernel) rfl
theorem wyX11_tells : YV yX11_tells cX11_tells 6 (some .int) 4 := ⟨gwt_6 129 (by decide +kernel) rfl, gwt_6 130 (by decide +kernel) rfl, gwt_1 1 (by decide +kernel) rfl, gwt_6 131 (by decide +kernel) rfl, by decide +kernel, by decide⟩
set_option maxHeartbeats 400000 in
set_option maxRecDepth 20000 in
theorem hp_tells (l : Launch) (hl0 : l.stackTraces = false) (D : va_G) (ca ad : Nat → Nat) (ao : Nat) (h h1 : HS) (p1 p2 p3 p4 k : Int32) (x x1 : Int64) (hh : (∃ r, fX11_tells p1 p2 p3 p4 h = some (r, h1) ∧ k = 0 ∧ x1 = r.toInt64) ∨ ((fX11_tells_x57 p1 p2 p3 p4 h = some h1) ∧ k = 1 ∧ x1 = x)) :
    Met l yL_tells (.codeWith yL_tells cL_tells 7 (some .int) [(0, 14, 17, 13)] :: GW) (rmH 5) (va_Pc [.ref (ad 0), .int p1, .int p2, .int p3, .int p4, .ref ao] (fun U => va_P D vwCl (wo ca ad ao h x) U.heap ∧ KX D ca U ∧ va_D (fun _ => True) (wo ca ad ao h x) ∧ XE (oA ad ao) U U.heap)) (fun _ st oc t => oc = .returned (some (.int k)) ∧ va_P D vwCl (wo ca ad ao h1 x1) t.heap ∧ va_F (oA ad ao) st t) 1 6 (oA ad ao) := by
  refine Met_ofWH (cc := cL_tells) (maxL := 7) (ret := some .int) (hh := [(0, 14, 17, 13)]) (by decide +kernel) rfl ?_
  intro p e s m args below meth c s₁ B hml htab hv
  obtain ⟨rfl, hP, hK, hD0, hXE⟩ := hv
  have hx := B.exec
  have hb := B.bytes
  have hr := B.returns
  have hts : ∀ w ∈ GW, w.before ([.ref (ad 0), .int p1, .int p2, .int p3, .int p4, .ref ao] : List Value).toArray s = true := fun w hw => atoms_spec (ws := .codeWith yL_tells cL_tells 7 (some .int) [(0, 14, 17, 13)] :: GW) B.pre w (List.mem_cons_of_mem _ hw)
  have hown : s.vm.findClass RL = some m.cls := findClass_of_methodNamed B.named
  have hlocks := B.notSynchronized
  have hD := wo_D hD0
  have hS : va_S (oA ad ao) s.heap s.heap [] := va_S.rf
  have hl := lv_entry ([.ref (ad 0), .int p1, .int p2, .int p3, .int p4, .ref ao] : List Value) (n := 7) (Nat.le_of_ble_eq_true rfl)
  rw [lg_entry_eq]
  generalize (lg_sl ([.ref (ad 0), .int p1, .int p2, .int p3, .int p4, .ref ao] : List Value) ++ List.replicate (7 - (lg_sl ([.ref (ad 0), .int p1, .int p2, .int p3, .int p4, .ref ao] : List Value)).length) Slot.unset).toArray = ls at hl ⊢
  have hl : lv_has ls 7 [(0, .ref (ad 0)), (1, .int p1), (2, .int p2), (3, .int p3), (4, .int p4), (5, .ref ao)] := hl
  have C : CallFix p m c cL_tells 7 s ([.ref (ad 0), .int p1, .int p2, .int p3, .int p4, .ref ao] : List Value).toArray GW RL := ⟨hx, hb, hml, hown, hts⟩
  refine lv_aload hx hb dL_tells_0 (lv_at hl 5 rfl) ?_
  refine lv_iconst (v := 0) hx hb dL_tells_2 (by decide) ?_
  refine lv_aload_n hx hb dL_tells_3 rfl (lv_at hl 0 rfl) ?_
  refine lv_iload_n hx hb dL_tells_4 rfl (lv_at hl 1 rfl) ?_
  refine lv_iload_n hx hb dL_tells_5 rfl (lv_at hl 2 rfl) ?_
  refine lv_iload_n hx hb dL_tells_6 rfl (lv_at hl 3 rfl) ?_
  refine lv_iload hx hb dL_tells_7 (lv_at hl 4 rfl) ?_
  rw [wo_nil] at hP hD
  rcases hh with ⟨r, hf, rfl, rfl⟩ | ⟨hf, rfl, rfl⟩
  · refine o_call (ws0 := []) (ws2 := [(ao, outE ca x)]) (As := [.int p1, .int p2, .int p3, .int p4]) (a := 0) (d1 := 5) C hK hP hD hS hl.1 dL_tells_9 lm_tells wyX11_tells (tX11_tells hf) (show 5 + 2 ≤ 5 + 8 by omega) (show 60 * (5 + 2) ≤ 60 * (5 + 4) by omega) (Nat.zero_le _) (Nat.zero_le _) rfl rfl rfl rfl (by simp [Value.category]) rfl (fun H1 locs1 hP1 hD1 hS1 => ?_)
    rw [← wo_nil] at hP1 hD1
    refine W.eq (g2 := F0 m 12 ls [.int r, .int 0, .ref ao]) rfl ?_
    refine lv_i2l hx hb dL_tells_12 rfl ?_
    refine va_last hx hb hK.1 hP1 hD1 hS1 68 3 wo_out rfl (inb_in (i := 0) (n := 1) (by decide)) dL_tells_13 (fun H2 locs2 hP2 hD2 hS2 => ?_)
    refine lv_goto (tgt := 21) hx hb dL_tells_14 (by decide) ?_
    refine lv_iconst (v := 0) hx hb dL_tells_21 (by decide) ?_
    refine W.widen (k := 1) (n := 6) (Nat.zero_le _) (Nat.zero_le _) ?_
    exact W.iret hx hb hr (fun t ht hW => ⟨rfl, by rw [ht]; exact wo_set (x1 := r.toInt64) (by rfl) hP2, hS2.F ht⟩) hS2.2.2 dL_tells_22
  · refine o_thr (ws0 := []) (ws2 := [(ao, outE ca x1)]) (As := [.int p1, .int p2, .int p3, .int p4]) (a := 0) (d1 := 5) C hl0 hK hXE hP hD hS hl.1 dL_tells_9 lm_tells wyX11_tells (zX11_tells_x57 hf) (show 5 + 7 ≤ 5 + 8 by omega) (show 60 * (5 + 3) ≤ 60 * (5 + 4) by omega) (Nat.le_refl _) (Nat.le_refl _) rfl rfl rfl rfl (by simp [Value.category]) rfl htab (by decide) lk13 (fun q H1 locs1 hP1 hD1 hS1 => ?_)
    rw [← wo_nil] at hP1 hD1
    refine lv_astore (lv' := [(6, .ref q), (0, .ref (ad 0)), (1, .int p1), (2, .int p2), (3, .int p3), (4, .int p4), (5, .ref ao)]) hx hb dL_tells_17 hl (by decide) rfl (fun ls hl => ?_)
    refine lv_iconst (v := 1) hx hb dL_tells_19 (by decide) ?_
    exact W.iret hx hb hr (fun t ht hW => ⟨rfl, by rw [ht]; exact hP1, hS1.F ht⟩) hS1.2.2 dL_tells_20
theorem dL_row_0 : decode cL_row 0 = .ok (.aload_n 2, 1) := by decide +kernel
theorem dL_row_1 : decode cL_row 1 = .ok (.iconst 0, 1) := by decide +kernel
theorem dL_row_2 : decode cL_row 2 = .ok (.aload_n 0, 1) := by decide +kernel
theorem dL_row_3 : decode cL_row 3 = .ok (.iload_n 1, 1) := by decide +kernel
theorem dL_row_4 : decode cL_row 4 = .ok (.invokevirtual 29, 3) := by decide +kernel
theorem dL_row_7 : decode cL_row 7 = .ok (.i2l, 1) := by decide +kernel
theorem dL_row_8 : decode cL_row 8 = .ok (.lastore, 1) := by decide +kernel
theorem dL_row_9 : decode cL_row 9 = .ok (.goto 6, 3) := by decide +kernel
theorem dL_row_12 : decode cL_row 12 = .ok (.astore_n 3, 1) := by decide +kernel
theorem dL_row_13 : decode cL_row 13 = .ok (.iconst 1, 1) := by decide +kernel
theorem dL_row_14 : decode cL_row 14 = .ok (.ireturn, 1) := by decide +kernel
theorem dL_row_15 : decode cL_row 15 = .ok (.iconst 0, 1) := by decide +kernel
theorem dL_row_16 : decode cL_row 16 = .ok (.ireturn, 1) := by decide +kernel
theorem lm_row : Cond.methodLink RL 29 yX11_row ∈ GW := gwt_6 137 (by decide +kernel) rfl
theorem wyX11_row : YV yX11_row cX11_row 2 (some .int) 1 := ⟨gwt_6 138 (by decide +kernel) rfl, gwt_6 139 (by decide +kernel) rfl, gwt_1 1 (by decide +kernel) rfl, gwt_6 140 (by decide +kernel) rfl, by decide +kernel, by decide⟩
set_option maxHeartbeats 400000 in
set_option maxRecDepth 20000 in
theorem hp_row (l : Launch) (hl0 : l.stackTraces = false) (D : va_G) (ca ad : Nat → Nat) (ao : Nat) (h h1 : HS) (p1 k : Int32) (x x1 : Int64) (hh : (∃ r, fX11_row p1 h = some (r, h1) ∧ k = 0 ∧ x1 = r.toInt64) ∨ ((fX11_row_x17 p1 h = some h1) ∧ k = 1 ∧ x1 = x)) :
    Met l yL_row (.codeWith yL_row cL_row 4 (some .int) [(0, 9, 12, 13)] :: GW) (rmH 1) (va_Pc [.ref (ad 0), .int p1, .ref ao] (fun U => va_P D vwCl (wo ca ad ao h x) U.heap ∧ KX D ca U ∧ va_D (fun _ => True) (wo ca ad ao h x) ∧ XE (oA ad ao) U U.heap)) (fun _ st oc t => oc = .returned (some (.int k)) ∧ va_P D vwCl (wo ca ad ao h1 x1) t.heap ∧ va_F (oA ad ao) st t) 1 6 (oA ad ao) := by
  refine Met_ofWH (cc := cL_row) (maxL := 4) (ret := some .int) (hh := [(0, 9, 12, 13)]) (by decide +kernel) rfl ?_
  intro p e s m args below meth c s₁ B hml htab hv
  obtain ⟨rfl, hP, hK, hD0, hXE⟩ := hv
  have hx := B.exec
  have hb := B.bytes
  have hr := B.returns
  have hts : ∀ w ∈ GW, w.before ([.ref (ad 0), .int p1, .ref ao] : List Value).toArray s = true := fun w hw => atoms_spec (ws := .codeWith yL_row cL_row 4 (some .int) [(0, 9, 12, 13)] :: GW) B.pre w (List.mem_cons_of_mem _ hw)
  have hown : s.vm.findClass RL = some m.cls := findClass_of_methodNamed B.named
  have hlocks := B.notSynchronized
  have hD := wo_D hD0
  have hS : va_S (oA ad ao) s.heap s.heap [] := va_S.rf
  have hl := lv_entry ([.ref (ad 0), .int p1, .ref ao] : List Value) (n := 4) (Nat.le_of_ble_eq_true rfl)
  rw [lg_entry_eq]
  generalize (lg_sl ([.ref (ad 0), .int p1, .ref ao] : List Value) ++ List.replicate (4 - (lg_sl ([.ref (ad 0), .int p1, .ref ao] : List Value)).length) Slot.unset).toArray = ls at hl ⊢
  have hl : lv_has ls 4 [(0, .ref (ad 0)), (1, .int p1), (2, .ref ao)] := hl
  have C : CallFix p m c cL_row 4 s ([.ref (ad 0), .int p1, .ref ao] : List Value).toArray GW RL := ⟨hx, hb, hml, hown, hts⟩
  refine lv_aload_n hx hb dL_row_0 rfl (lv_at hl 2 rfl) ?_
  refine lv_iconst (v := 0) hx hb dL_row_1 (by decide) ?_
  refine lv_aload_n hx hb dL_row_2 rfl (lv_at hl 0 rfl) ?_
  refine lv_iload_n hx hb dL_row_3 rfl (lv_at hl 1 rfl) ?_
  rw [wo_nil] at hP hD
  rcases hh with ⟨r, hf, rfl, rfl⟩ | ⟨hf, rfl, rfl⟩
  · refine o_call (ws0 := []) (ws2 := [(ao, outE ca x)]) (As := [.int p1]) (a := 0) (d1 := 1) C hK hP hD hS hl.1 dL_row_4 lm_row wyX11_row (tX11_row hf) (show 1 + 2 ≤ 1 + 8 by omega) (show 60 * (1 + 2) ≤ 60 * (1 + 4) by omega) (Nat.zero_le _) (Nat.zero_le _) rfl rfl rfl rfl (by simp [Value.category]) rfl (fun H1 locs1 hP1 hD1 hS1 => ?_)
    rw [← wo_nil] at hP1 hD1
    refine W.eq (g2 := F0 m 7 ls [.int r, .int 0, .ref ao]) rfl ?_
    refine lv_i2l hx hb dL_row_7 rfl ?_
    refine va_last hx hb hK.1 hP1 hD1 hS1 68 3 wo_out rfl (inb_in (i := 0) (n := 1) (by decide)) dL_row_8 (fun H2 locs2 hP2 hD2 hS2 => ?_)
    refine lv_goto (tgt := 15) hx hb dL_row_9 (by decide) ?_
    refine lv_iconst (v := 0) hx hb dL_row_15 (by decide) ?_
    refine W.widen (k := 1) (n := 6) (Nat.zero_le _) (Nat.zero_le _) ?_
    exact W.iret hx hb hr (fun t ht hW => ⟨rfl, by rw [ht]; exact wo_set (x1 := r.toInt64) (by rfl) hP2, hS2.F ht⟩) hS2.2.2 dL_row_16
  · refine o_thr (ws0 := []) (ws2 := [(ao, outE ca x1)]) (As := [.int p1]) (a := 0) (d1 := 1) C hl0 hK hXE hP hD hS hl.1 dL_row_4 lm_row wyX11_row (zX11_row_x17 hf) (show 1 + 7 ≤ 1 + 8 by omega) (show 60 * (1 + 3) ≤ 60 * (1 + 4) by omega) (Nat.le_refl _) (Nat.le_refl _) rfl rfl rfl rfl (by simp [Value.category]) rfl htab (by decide) lk13 (fun q H1 locs1 hP1 hD1 hS1 => ?_)
    rw [← wo_nil] at hP1 hD1
    refine lv_astore_n (lv' := [(3, .ref q), (0, .ref (ad 0)), (1, .int p1), (2, .ref ao)]) hx hb dL_row_12 rfl hl (by decide) rfl (fun ls hl => ?_)
    refine lv_iconst (v := 1) hx hb dL_row_13 (by decide) ?_
    exact W.iret hx hb hr (fun t ht hW => ⟨rfl, by rw [ht]; exact hP1, hS1.F ht⟩) hS1.2.2 dL_row_14
