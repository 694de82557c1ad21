/-! the law -/
def A0 (s : State) (q : Nat) : Prop := s.heap.size ≤ q
def LX (p : Program) (l : Launch) (s : State) (m : MethodId) (c : Code) (b L : Nat) (xs : Nat → Int32) (D : va_G) (ca : Nat → Nat) : Prop := CallFix p m c cL_law 7 s #[Value.ref b] GW RL ∧ l.stackTraces = false ∧ KX D ca s ∧ XE (A0 s) s s.heap ∧ va_X b L xs s s.heap ∧ b < s.heap.size ∧ L ≤ 3072
def wl (ca adc adm : Nat → Nat) (ao : Nat) (hc hm : HS) (x : Int64) : va_W := wld skM ca adm hm ++ (wld skC ca adc hc ++ [(ao, outE ca x)])
abbrev lv5 (b : Nat) (adc adm : Nat → Nat) (ao i : Nat) : List (Nat × Value) := [(0, .ref b), (1, .ref (adc 0)), (2, .ref (adm 0)), (3, .ref ao), (4, .int (nI i))]
def LH (p : Program) (l : Launch) (e : Env) (s : State) (m : MethodId) (b : Nat) (below : List Frame) (meth : Method) (c : Code) (D : va_G) (ca adc adm : Nat → Nat) (ao : Nat) (Z : State → Prop) (i pc : Nat) (hc hm : HS) (x : Int64) (cl sl : Nat) : Prop :=
  ∀ (H : Heap) (locs : List Loc) (ls : Array Slot), va_P D vwCl (wl ca adc adm ao hc hm x) H → va_D (A0 s) (wl ca adc adm ao hc hm x) → va_S (A0 s) s.heap H locs → lv_has ls 7 (lv5 b adc adm ao i) → W p l e room_1 s m #[Value.ref b] below meth c H locs cl sl Z (F0 m pc ls [])
def bz (x : Int32) : Int32 := if x = 0 then 0 else 1
section LL
variable {p : Program} {l : Launch} {e : Env} {s : State} {m : MethodId} {b L : Nat} {xs : Nat → Int32} {below : List Frame} {meth : Method} {c : Code} {D : va_G} {ca adc adm : Nat → Nat} {ao : Nat} {Z : State → Prop} {H : Heap} {locs : List Loc} {ls : Array Slot} {cl sl pc i : Nat} {rest : List Value} {hc hm : HS} {x : Int64}
theorem l_arg {j : Nat} {jz : Int} (X : LX p l s m c b L xs D ca) (hS : va_S (A0 s) s.heap H locs) (hi : i + 6 ≤ L) (hj : j < 6) (hz : Int32.ofInt jz = nI j) (h0 : ls[0]? = some (.val (.ref b))) (h4 : ls[4]? = some (.val (.int (nI i)))) (d0 : decode cL_law pc = .ok (.aload_n 0, 1)) (d1 : decode cL_law (pc + 1) = .ok (.iload 4, 2)) (d3 : decode cL_law (pc + 3) = .ok (.iconst jz, 1)) (d4 : decode cL_law (pc + 4) = .ok (.iadd, 1)) (d5 : decode cL_law (pc + 5) = .ok (.iaload, 1))
    (kk : W p l e room_1 s m #[Value.ref b] below meth c H locs cl sl Z (F0 m (pc + 6) ls (.int (xs (i + j)) :: rest))) : W p l e room_1 s m #[Value.ref b] below meth c H locs cl sl Z (F0 m pc ls rest) := by
  obtain ⟨C, -, -, -, hX, hbl, hL⟩ := X
  refine lv_aload_n C.1 C.2.1 d0 rfl h0 ?_
  refine lv_iload C.1 C.2.1 d1 h4 ?_
  refine lv_iconst (v := nI j) C.1 C.2.1 d3 hz ?_
  refine lv_iadd C.1 C.2.1 d4 ?_
  rw [nI_add]
  refine va_sld (A := A0 s) C.1 C.2.1 hX hbl (Nat.not_le.mpr hbl) hS (vp_in_nI (show i + j < L by omega) (by omega)) d5 ?_
  rw [nI_clamp (by omega)]
  exact kk
theorem l_bz {y : Int32} (X : LX p l s m c b L xs D ca) (d0 : decode cL_law pc = .ok (.ifCond .eq 7, 3)) (d3 : decode cL_law (pc + 3) = .ok (.iconst 1, 1)) (d4 : decode cL_law (pc + 4) = .ok (.goto 4, 3)) (d7 : decode cL_law (pc + 7) = .ok (.iconst 0, 1))
    (kk : W p l e room_1 s m #[Value.ref b] below meth c H locs cl sl Z (F0 m (pc + 8) ls (.int (bz y) :: rest))) : W p l e room_1 s m #[Value.ref b] below meth c H locs cl sl Z (F0 m pc ls (.int y :: rest)) := by
  obtain ⟨C, -⟩ := X
  refine lv_if_eq (tgt := pc + 7) C.1 C.2.1 d0 (by omega) (fun h => ?_) (fun h => ?_)
  · refine lv_iconst (v := 0) C.1 C.2.1 d7 (by decide) ?_
    rw [bz, if_pos h] at kk
    exact kk
  · refine lv_iconst (v := 1) C.1 C.2.1 d3 (by decide) ?_
    refine lv_goto (tgt := pc + 8) C.1 C.2.1 d4 (by omega) ?_
    rw [bz, if_neg h] at kk
    exact kk
theorem l_callC {y : MethodName} {bytes : ByteArray} {maxL n d1 index : Nat} {rt : Option FieldType} {As st0 rest : List Value} {r : Int32} {h1 : HS} (X : LX p l s m c b L xs D ca) (hP : va_P D vwCl (wl ca adc adm ao hc hm x) H) (hD : va_D (A0 s) (wl ca adc adm ao hc hm x)) (hS : va_S (A0 s) s.heap H locs) (hsz : ls.size = 7) (hd : decode cL_law pc = .ok (.invokevirtual index, 3)) (hw : Cond.methodLink RL index y ∈ GW) (hy : YV y bytes maxL rt n) (hC : Cn skC y bytes maxL rt d1 (.ref 0 :: As) hc (some (.int r)) h1) (hRf : d1 + 2 ≤ 2048) (hRl : 60 * (d1 + 2) ≤ 84000) (hcl9 : cl ≤ 601024) (hsl9 : sl ≤ 7293034) (hcy : RX11 = y.cls) (hn : As.length = n)
    (hst : (rest.map fun v => v.category).sum ≤ 8) (hAs : As.map (tv adc) = As) (hsta : st0 = As.reverse ++ .ref (adc 0) :: rest) (kk : ∀ (H1 : Heap) (locs1 : List Loc), va_P D vwCl (wl ca adc adm ao h1 hm x) H1 → va_D (A0 s) (wl ca adc adm ao h1 hm x) → va_S (A0 s) s.heap H1 locs1 → W p l e room_1 s m #[Value.ref b] below meth c H1 locs1 cl sl Z (F0 m (pc + 3) ls (.int r :: rest))) : W p l e room_1 s m #[Value.ref b] below meth c H locs cl sl Z (F0 m pc ls st0) := by
  obtain ⟨C, -, hK, -⟩ := X
  exact o_call (R := room_1) C hK hP hD hS hsz hd hw hy hC hRf hRl hcl9 hsl9 (a := 0) (ci := 11) (fts := [11, 12, 13, 14, 26, 0, 15, 16, 17, 18, 19, 20]) rfl rfl hcy hn hst (by rw [hAs]; exact hsta) kk
theorem l_callM {y : MethodName} {bytes : ByteArray} {maxL n d1 index : Nat} {rt : Option FieldType} {As st0 rest : List Value} {r : Int32} {h1 : HS} (X : LX p l s m c b L xs D ca) (hP : va_P D vwCl (wl ca adc adm ao hc hm x) H) (hD : va_D (A0 s) (wl ca adc adm ao hc hm x)) (hS : va_S (A0 s) s.heap H locs) (hsz : ls.size = 7) (hd : decode cL_law pc = .ok (.invokevirtual index, 3)) (hw : Cond.methodLink RL index y ∈ GW) (hy : YV y bytes maxL rt n) (hC : Cn skM y bytes maxL rt d1 (.ref 0 :: As) hm (some (.int r)) h1) (hRf : d1 + 2 ≤ 2048) (hRl : 60 * (d1 + 2) ≤ 84000) (hcl9 : cl ≤ 601024) (hsl9 : sl ≤ 7293034) (hcy : RX12 = y.cls) (hn : As.length = n)
    (hst : (rest.map fun v => v.category).sum ≤ 8) (hAs : As.map (tv adm) = As) (hsta : st0 = As.reverse ++ .ref (adm 0) :: rest) (kk : ∀ (H1 : Heap) (locs1 : List Loc), va_P D vwCl (wl ca adc adm ao hc h1 x) H1 → va_D (A0 s) (wl ca adc adm ao hc h1 x) → va_S (A0 s) s.heap H1 locs1 → W p l e room_1 s m #[Value.ref b] below meth c H1 locs1 cl sl Z (F0 m (pc + 3) ls (.int r :: rest))) : W p l e room_1 s m #[Value.ref b] below meth c H locs cl sl Z (F0 m pc ls st0) := by
  obtain ⟨C, -, hK, -⟩ := X
  refine o_call (R := room_1) (ws0 := []) (ws2 := wld skC ca adc hc ++ [(ao, outE ca x)]) C hK (by rw [List.nil_append]; exact hP) (by rw [List.nil_append]; exact hD) hS hsz hd hw hy hC hRf hRl hcl9 hsl9 (a := 0) (ci := 12) rfl rfl hcy hn hst (by rw [hAs]; exact hsta) (fun H1 locs1 hP1 hD1 hS1 => ?_)
  rw [List.nil_append] at hP1 hD1
  exact kk H1 locs1 hP1 hD1 hS1
/-- a helper of the law -/
theorem l_help {y : MethodName} {bytes : ByteArray} {maxL n d1 index : Nat} {hh : List (Nat × Nat × Nat × Nat)} {As rest : List Value} {k : Int32} {h1 : HS} {x1 : Int64} (X : LX p l s m c b L xs D ca) (hP : va_P D vwCl (wl ca adc adm ao hc hm x) H) (hD : va_D (A0 s) (wl ca adc adm ao hc hm x)) (hS : va_S (A0 s) s.heap H locs) (hsz : ls.size = 7) (hd : decode cL_law pc = .ok (.invokestatic index, 3)) (hw : Cond.methodLink RL index y ∈ GW ∧ Cond.static y ∈ GW ∧ Cond.initialized y.cls ∈ GW ∧ Cond.codeWith y bytes maxL (some .int) hh ∈ GW) (hdn : y.cls ≠ "java/lang/invoke/MethodHandle" ∧ y.cls ≠ "java/lang/invoke/VarHandle" ∧ (parseMethodDescriptor y.desc).map (fun d => d.parameters.length) = some n)
    (hM : Met l y (.codeWith y bytes maxL (some .int) hh :: GW) (rmH d1) (va_Pc As (fun U => va_P D vwCl (wo ca adc ao hc x) U.heap ∧ KX D ca U ∧ va_D (fun _ => True) (wo ca adc ao hc x) ∧ XE (oA adc ao) U U.heap)) (fun _ st oc t => oc = .returned (some (.int k)) ∧ va_P D vwCl (wo ca adc ao h1 x1) t.heap ∧ va_F (oA adc ao) st t) 1 6 (oA adc ao))
    (hRf : d1 + 9 ≤ 2048) (hRl : maxL ≤ 41 ∧ 60 * (d1 + 5) ≤ 84000) (hcl9 : cl + 1 ≤ 601024) (hsl9 : sl + 6 ≤ 7293034) (hn : As.length = n) (hst : (rest.map fun v => v.category).sum ≤ 8) {st0 : List Value} (hsta : st0 = As.reverse ++ rest)
    (kk : ∀ (H1 : Heap) (locs1 : List Loc), va_P D vwCl (wl ca adc adm ao h1 hm x1) H1 → va_D (A0 s) (wl ca adc adm ao h1 hm x1) → va_S (A0 s) s.heap H1 locs1 → W p l e room_1 s m #[Value.ref b] below meth c H1 locs1 (cl + 1) (sl + 6) Z (F0 m (pc + 3) ls (.int k :: rest))) : W p l e room_1 s m #[Value.ref b] below meth c H locs cl sl Z (F0 m pc ls st0) := by
  subst hsta
  obtain ⟨C, hl0, hK, hXE, hX, hbl, hL⟩ := X
  have hts := C.2.2.2.2
  have eW : ∀ (h : HS) (x : Int64), wl ca adc adm ao h hm x = wld skM ca adm hm ++ (wo ca adc ao h x ++ []) := fun h x => by rw [List.append_nil]; rfl
  rw [eW] at hP hD
  have hP0 := mid_P hP
  have hD0 := mid_D hD
  have hin : ∀ q, oA adc ao q → A0 s q := fun q hq => by
    rcases hq with hq | hq
    · obtain ⟨k, hk, rfl⟩ := hq
      exact hD0.2 k (adc k, cel ca adc hc k (skC[k])) (by unfold wo; rw [List.getElem?_append_left (by rw [wld_len]; exact hk)]; exact wld_get (List.getElem?_eq_getElem hk))
    · rw [hq]
      exact hD0.2 68 _ wo_out
  have hX0 : XE (oA adc ao) s H := (hXE.kept hS.2.1).narrow hin
  have hbl9 : FrameBlind (va_Pc As (fun U => va_P D vwCl (wo ca adc ao hc x) U.heap ∧ KX D ca U ∧ va_D (fun _ => True) (wo ca adc ao hc x) ∧ XE (oA adc ao) U U.heap)) := fun a U g mk q => by
    obtain ⟨q0, qP, qK, qD, qX⟩ := q
    exact ⟨q0, qP, qK.call, qD, qX.call⟩
  have hrun := vx_runSW (g := F0 m pc ls (As.reverse ++ rest)) (As := As) (rest := rest) (H := H) (locs := locs) (cells := cl) (slots := sl) (R := room_1) (below := below) (meth := meth) (e := e) (index := index) (n := n) C hM
    (vx_cwSW n hts (fun w hw' => by
      unfold va_wsS at hw'
      rcases List.mem_append.mp hw' with h | h
      · simp only [List.mem_cons, List.not_mem_nil, or_false] at h
        rcases h with rfl | rfl | rfl
        · exact gw_good _ hw.1
        · exact gw_good _ hw.2.1
        · exact gw_good _ hw.2.2.1
      · rcases List.mem_cons.mp h with rfl | h
        · exact gw_good _ hw.2.2.2
        · exact gw_good _ h) rfl rfl rfl hdn ⟨by show d1 + 8 + 1 ≤ 2048; omega, by show 8 + (maxL + 11) + 60 * (d1 + 4) ≤ 84000; have := hRl; omega⟩)
    ⟨hbl9, fun U hU hW => ⟨rfl, by rw [hU]; exact hP0, hK.warm hW, hD0.weaken (fun _ _ _ _ => trivial), by rw [hU]; exact hX0.warm hW⟩⟩ rfl hn hsz rfl (lv_room hst) hd ⟨hcl9, hsl9⟩
  intro T hT Xs
  obtain ⟨v, st₀, t, T', L9, e0, X', hL9, e1, e2, ⟨hv, hP1, hz, hk⟩, st⟩ := hrun T hT Xs
  cases hv
  rw [e0] at hz hk
  have hS1 : va_S (A0 s) s.heap T'.heap (locs ++ L9) := ⟨Nat.le_trans hS.1 (by rw [e1]; exact hz), fun q h1 h2 => by
      rw [e1, hk q (Nat.lt_of_lt_of_le h1 hS.1) (fun z => h2 (hin q z))]
      exact hS.2.1 q h1 h2, fun q hq => by
      rcases List.mem_append.mp hq with h | h
      · exact hS.2.2 q h
      · exact hin _ (hL9 q h)⟩
  have hlen : (wo ca adc ao h1 x1).length = (wo ca adc ao hc x).length := by
    unfold wo
    rw [List.length_append, List.length_append, wld_len, wld_len]
    rfl
  obtain ⟨hP2, hD2⟩ := fr_G (w := wo ca adc ao hc x) (w1 := wo ca adc ao h1 x1) (B := oA adc ao) hlen (fun k9 x9 hx9 => by
    unfold wo at hx9 ⊢
    by_cases hl : k9 < skC.length
    · rw [List.getElem?_append_left (by rw [wld_len]; exact hl)] at hx9 ⊢
      obtain ⟨q, g1, rfl⟩ := wld_inv hx9
      exact ⟨_, wld_get g1, rfl⟩
    · rw [List.getElem?_append_right (by rw [wld_len]; omega), wld_len] at hx9
      have hz9 : k9 - skC.length < 1 := (List.getElem?_eq_some_iff.mp hx9).1
      rw [show k9 - skC.length = 0 by omega] at hx9
      cases hx9
      exact ⟨(ao, outE ca x), by rw [List.getElem?_append_right (by rw [wld_len]; omega), wld_len, show k9 - skC.length = 0 by omega]; rfl, rfl⟩) (fun q hq => by
    rcases hq with hq | hq
    · obtain ⟨k9, hk9, rfl⟩ := hq
      exact ⟨k9, _, by unfold wo; rw [List.getElem?_append_left (by rw [wld_len]; exact hk9)]; exact wld_get (List.getElem?_eq_getElem hk9), rfl⟩
    · exact ⟨68, _, wo_out, hq.symm⟩) hP hD hP1 hk
  rw [← eW] at hP2 hD2
  obtain ⟨t2, a1, b1⟩ := kk T'.heap (locs ++ L9) (by rw [e1]; exact hP2) hD2 hS1 T' rfl X'
  exact ⟨t2, st t2 a1, b1⟩
theorem wl_out : (wl ca adc adm ao hc hm x)[39 + 68]? = some (ao, outE ca x) := by
  unfold wl
  rw [List.getElem?_append_right (by rw [wld_len]; decide), wld_len]
  exact wo_out
end LL
