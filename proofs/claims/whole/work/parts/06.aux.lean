/-! what the functions are written with -/
noncomputable def FU : Nat := Classical.choose (⟨40000, rfl⟩ : ∃ n : Nat, n = 40000)
theorem FU_eq : FU = 40000 := Classical.choose_spec (⟨40000, rfl⟩ : ∃ n : Nat, n = 40000)
def nm {α β : Type} (e : α) (f : α → β) : β := f e
theorem nm_x {α β : Type} {e : α} {f : α → β} {y : β} (H : nm e f = y) : ∃ v, v = e ∧ f v = y := ⟨e, rfl, H⟩
def ck {β : Type} (b : Bool) (o : Option β) : Option β := cond b o none
theorem ck_x {β : Type} {b : Bool} {o : Option β} {y : β} (H : ck b o = some y) : b = true ∧ o = some y := by
  cases b with
  | true => exact ⟨rfl, H⟩
  | false => cases H
def bd {α β : Type} (o : Option (α × HS)) (f : α → HS → Option β) : Option β := match o with
  | some (a, h) => f a h
  | none => none
theorem bd_x {α β : Type} {o : Option (α × HS)} {f : α → HS → Option β} {y : β} (H : bd o f = some y) : ∃ r h1, o = some (r, h1) ∧ f r h1 = some y := by
  cases o with
  | none => cases H
  | some q => exact ⟨q.1, q.2, rfl, H⟩
def bv {β : Type} (o : Option HS) (f : HS → Option β) : Option β := match o with
  | some h => f h
  | none => none
theorem bv_x {β : Type} {o : Option HS} {f : HS → Option β} {y : β} (H : bv o f = some y) : ∃ h1, o = some h1 ∧ f h1 = some y := by
  cases o with
  | none => cases H
  | some q => exact ⟨q, rfl, H⟩
def bR {β : Type} (o : Option Nat) (f : Nat → Option β) : Option β := match o with
  | some a => f a
  | none => none
theorem bR_x {β : Type} {o : Option Nat} {f : Nat → Option β} {y : β} (H : bR o f = some y) : ∃ a, o = some a ∧ f a = some y := by
  cases o with
  | none => cases H
  | some q => exact ⟨q, rfl, H⟩
def bA {β : Type} (sk : SK) (t a : Nat) (f : Nat → Option β) : Option β := match ak sk a with
  | some (u, n) => ck (u == t) (f n)
  | none => none
theorem bA_x {β : Type} {sk : SK} {t a : Nat} {f : Nat → Option β} {y : β} (H : bA sk t a f = some y) : ∃ n, ak sk a = some (t, n) ∧ f n = some y := by
  unfold bA at H
  split at H
  · rename_i u n hq
    obtain ⟨h1, h2⟩ := ck_x H
    have h3 : u = t := by simpa using h1
    subst h3
    exact ⟨n, hq, h2⟩
  · cases H
def nz (y : Int32) : Bool := decide (¬ y = 0)
theorem nz_x {y : Int32} (h : nz y = true) : ¬ y = 0 := of_decide_eq_true h
def nzL (y : Int64) : Bool := decide (¬ y = 0)
theorem nzL_x {y : Int64} (h : nzL y = true) : ¬ y = 0 := of_decide_eq_true h
def cpok (sp dp n : Int32) (n0 n1 : Nat) : Bool := decide (¬ sp < 0 ∧ ¬ dp < 0 ∧ ¬ n < 0 ∧ sp.toNatClampNeg + n.toNatClampNeg ≤ n0 ∧ dp.toNatClampNeg + n.toNatClampNeg ≤ n1)
theorem ri_1 {x r : Int32} {h h0 : HS} (H : some (x, h) = some (r, h0)) : (some (Value.int r) : Option Value) = some (.int x) := by cases H; rfl
theorem rl_1 {x r : Int64} {h h0 : HS} (H : some (x, h) = some (r, h0)) : (some (Value.long r) : Option Value) = some (.long x) := by cases H; rfl
theorem ri_2 {α : Type} {x r : α} {h h0 : HS} (H : some (x, h) = some (r, h0)) : h0 = h := by cases H; rfl
theorem rv_2 {h h0 : HS} (H : some h = some h0) : h0 = h := by cases H; rfl
theorem nz0 : vp_nar .boolean 0 = 0 := by decide +kernel
theorem nz1 : vp_nar .boolean 1 = 1 := by decide +kernel
theorem rz0 {r : Int32} {h h0 : HS} (H : some ((0 : Int32), h) = some (r, h0)) : (some (Value.int r) : Option Value) = some (.int (vp_nar .boolean 0)) := by cases H; rw [nz0]
theorem rz1 {r : Int32} {h h0 : HS} (H : some ((1 : Int32), h) = some (r, h0)) : (some (Value.int r) : Option Value) = some (.int (vp_nar .boolean 1)) := by cases H; rw [nz1]
theorem tb_out {x : Int32} {lo hi : Int} (H : ∀ k : Int, lo ≤ k → k ≤ hi → ¬ x = Int32.ofInt k) : x.toInt < lo ∨ hi < x.toInt := by
  by_cases h1 : x.toInt < lo
  · exact Or.inl h1
  · by_cases h2 : hi < x.toInt
    · exact Or.inr h2
    · exact absurd (Int32.ofInt_toInt x).symm (H x.toInt (by omega) (by omega))
theorem fk_at {sk : SK} {a k ci t : Nat} {fts : List Nat} (h : sk[a]? = some (0, ci, fts)) (hf : fts[k]? = some t) : fk sk a k = some (ci, t) := by
  unfold fk
  rw [h]
  show (fts[k]?).map (fun t => (ci, t)) = _
  rw [hf]
  rfl
theorem inb_lt {i : Int32} {n : Nat} (h : inb i n = true) : i.toNatClampNeg < n := Nat.not_le.mp fun q => inb_in h (Or.inr q)
/-- Math.floorDiv of longs -/
def lfd (x y : Int64) : Int64 := if 0 ≤ lg_cmp (x ^^^ y) 0 then x / y else if lg_cmp (x / y * y) x = 0 then x / y else x / y - 1
theorem dJ9_floorDiv_f86c9_0 : decode cJ9_floorDiv_f86c9 0 = .ok (.lload_n 0, 1) := by decide +kernel
theorem dJ9_floorDiv_f86c9_1 : decode cJ9_floorDiv_f86c9 1 = .ok (.lload_n 2, 1) := by decide +kernel
theorem dJ9_floorDiv_f86c9_2 : decode cJ9_floorDiv_f86c9 2 = .ok (.ldiv, 1) := by decide +kernel
theorem dJ9_floorDiv_f86c9_3 : decode cJ9_floorDiv_f86c9 3 = .ok (.lstore 4, 2) := by decide +kernel
theorem dJ9_floorDiv_f86c9_5 : decode cJ9_floorDiv_f86c9 5 = .ok (.lload_n 0, 1) := by decide +kernel
theorem dJ9_floorDiv_f86c9_6 : decode cJ9_floorDiv_f86c9 6 = .ok (.lload_n 2, 1) := by decide +kernel
theorem dJ9_floorDiv_f86c9_7 : decode cJ9_floorDiv_f86c9 7 = .ok (.lxor, 1) := by decide +kernel
theorem dJ9_floorDiv_f86c9_8 : decode cJ9_floorDiv_f86c9 8 = .ok (.lconst 0, 1) := by decide +kernel
theorem dJ9_floorDiv_f86c9_9 : decode cJ9_floorDiv_f86c9 9 = .ok (.lcmp, 1) := by decide +kernel
theorem dJ9_floorDiv_f86c9_10 : decode cJ9_floorDiv_f86c9 10 = .ok (.ifCond .ge 17, 3) := by decide +kernel
theorem dJ9_floorDiv_f86c9_13 : decode cJ9_floorDiv_f86c9 13 = .ok (.lload 4, 2) := by decide +kernel
theorem dJ9_floorDiv_f86c9_15 : decode cJ9_floorDiv_f86c9 15 = .ok (.lload_n 2, 1) := by decide +kernel
theorem dJ9_floorDiv_f86c9_16 : decode cJ9_floorDiv_f86c9 16 = .ok (.lmul, 1) := by decide +kernel
theorem dJ9_floorDiv_f86c9_17 : decode cJ9_floorDiv_f86c9 17 = .ok (.lload_n 0, 1) := by decide +kernel
theorem dJ9_floorDiv_f86c9_18 : decode cJ9_floorDiv_f86c9 18 = .ok (.lcmp, 1) := by decide +kernel
theorem dJ9_floorDiv_f86c9_19 : decode cJ9_floorDiv_f86c9 19 = .ok (.ifCond .eq 8, 3) := by decide +kernel
theorem dJ9_floorDiv_f86c9_22 : decode cJ9_floorDiv_f86c9 22 = .ok (.lload 4, 2) := by decide +kernel
theorem dJ9_floorDiv_f86c9_24 : decode cJ9_floorDiv_f86c9 24 = .ok (.lconst 1, 1) := by decide +kernel
theorem dJ9_floorDiv_f86c9_25 : decode cJ9_floorDiv_f86c9 25 = .ok (.lsub, 1) := by decide +kernel
theorem dJ9_floorDiv_f86c9_26 : decode cJ9_floorDiv_f86c9 26 = .ok (.lreturn, 1) := by decide +kernel
theorem dJ9_floorDiv_f86c9_27 : decode cJ9_floorDiv_f86c9 27 = .ok (.lload 4, 2) := by decide +kernel
theorem dJ9_floorDiv_f86c9_29 : decode cJ9_floorDiv_f86c9 29 = .ok (.lreturn, 1) := by decide +kernel
theorem Met_ofWF {l : Launch} {y : MethodName} {ws ws' : List Cond} {rm : Room} {Pc : Array Value → State → Prop} {Qc : Array Value → State → Outcome → State → Prop} {mc ms : Nat} {free : Addr → Prop} {cc : ByteArray} {maxL : Nat} {ret : Option FieldType}
    (hy : plainFor y = true) (hw : ws = Cond.code y cc maxL ret :: ws')
    (body : ∀ p e s m args below meth c s₁, BodyLoose p l y (headSpec ws rm) cc maxL ret e s m args below meth c s₁ → c.maxLocals = maxL → Pc args s →
      W p l e (headSpec ws rm).room s m args below meth c s.heap [] 0 0 (MQ below Qc args s mc ms free) (entryFrame m args maxL)) : Met l y ws rm Pc Qc mc ms free := by
  refine MetFree.of_bodySF (code := cc) (maxLocals := maxL) (ret := ret) hy ?_ ?_
  · intro args s m h hn
    obtain ⟨meth, c, h1, h2, h3, h4, h5, h6, -, -⟩ := Cond.code_spec hn (atoms_spec (ws := ws) h _ (by rw [hw]; exact List.mem_cons_self))
    exact ⟨meth, c, h1, h2, h3, h4, h5, h6⟩
  · intro p e s m args below meth c s₁ B hml hP _
    have hh0 : s₁.heap = s.heap := by rw [B.state]; rfl
    obtain ⟨t, a1, o, b1, b2, b3⟩ := body p e s m args below meth c s₁ B hml hP s₁ hh0 (Stand.of_body B)
    exact ⟨t, o, a1, b1, b2, ⟨b3.1, b3.2⟩⟩
theorem fdiv_plain : plainFor yJ9_floorDiv_f86c9 = true := by decide +kernel
theorem c_fdiv (l : Launch) (x y : Int64) (hne : ¬ y = 0) : Met l yJ9_floorDiv_f86c9 (.code yJ9_floorDiv_f86c9 cJ9_floorDiv_f86c9 6 (some .long) :: []) ({ frames := 0, cells := 0, slots := 0, locals := 0 }) (va_Pc [.long x, .long y] (fun _ => True)) (fun _ st oc t => oc = .returned (some (.long (lfd x y))) ∧ t.heap = st.heap) 0 0 (fun _ => False) := by
  refine Met_ofWF (cc := cJ9_floorDiv_f86c9) (maxL := 6) (ret := some .long) fdiv_plain rfl ?_
  intro p e s m args below meth c s₁ B hml hv
  obtain ⟨rfl, -⟩ := hv
  have hx := B.exec
  have hb := B.bytes
  have hr := B.returns
  have hlocks := B.notSynchronized
  have hl := lv_entry ([.long x, .long y]) (n := 6) (Nat.le_of_ble_eq_true rfl)
  rw [lg_entry_eq]
  generalize (lg_sl ([.long x, .long y]) ++ List.replicate (6 - (lg_sl ([.long x, .long y])).length) Slot.unset).toArray = ls at hl ⊢
  have hl : lv_has ls 6 [(0, .long x), (2, .long y)] := hl
  refine lv_lload_n hx hb dJ9_floorDiv_f86c9_0 rfl (lv_at hl 0 rfl) ?_
  refine lv_lload_n hx hb dJ9_floorDiv_f86c9_1 rfl (lv_at hl 1 rfl) ?_
  refine lv_ldiv hx hb dJ9_floorDiv_f86c9_2 hne ?_
  refine lv_lstore (lv' := [(4, .long (x / y)), (0, .long x), (2, .long y)]) hx hb dJ9_floorDiv_f86c9_3 hl (by decide) rfl (fun ls hl => ?_)
  refine lv_lload_n hx hb dJ9_floorDiv_f86c9_5 rfl (lv_at hl 1 rfl) ?_
  refine lv_lload_n hx hb dJ9_floorDiv_f86c9_6 rfl (lv_at hl 2 rfl) ?_
  refine lv_lxor hx hb dJ9_floorDiv_f86c9_7 ?_
  refine lv_lconst (v := 0) hx hb dJ9_floorDiv_f86c9_8 rfl ?_
  refine W.lcmp hx hb dJ9_floorDiv_f86c9_9 ?_
  refine lv_if_ge (tgt := 27) hx hb dJ9_floorDiv_f86c9_10 rfl (fun c1 => ?_) (fun c1 => ?_)
  · refine lv_lload hx hb dJ9_floorDiv_f86c9_27 (lv_at hl 0 rfl) ?_
    exact W.lret (v := x / y) hx hb hr (fun t ht hW => ⟨by rw [lfd, if_pos c1], ht⟩) (fun q h => nomatch h) dJ9_floorDiv_f86c9_29
  · refine lv_lload hx hb dJ9_floorDiv_f86c9_13 (lv_at hl 0 rfl) ?_
    refine lv_lload_n hx hb dJ9_floorDiv_f86c9_15 rfl (lv_at hl 2 rfl) ?_
    refine lv_lmul hx hb dJ9_floorDiv_f86c9_16 ?_
    refine lv_lload_n hx hb dJ9_floorDiv_f86c9_17 rfl (lv_at hl 1 rfl) ?_
    refine W.lcmp hx hb dJ9_floorDiv_f86c9_18 ?_
    refine lv_if_eq (tgt := 27) hx hb dJ9_floorDiv_f86c9_19 rfl (fun c2 => ?_) (fun c2 => ?_)
    · refine lv_lload hx hb dJ9_floorDiv_f86c9_27 (lv_at hl 0 rfl) ?_
      exact W.lret (v := x / y) hx hb hr (fun t ht hW => ⟨by rw [lfd, if_neg c1, if_pos c2], ht⟩) (fun q h => nomatch h) dJ9_floorDiv_f86c9_29
    · refine lv_lload hx hb dJ9_floorDiv_f86c9_22 (lv_at hl 0 rfl) ?_
      refine lv_lconst (v := 1) hx hb dJ9_floorDiv_f86c9_24 rfl ?_
      refine lv_lsub hx hb dJ9_floorDiv_f86c9_25 ?_
      exact W.lret (v := x / y - 1) hx hb hr (fun t ht hW => ⟨by rw [lfd, if_neg c1, if_neg c2], ht⟩) (fun q h => nomatch h) dJ9_floorDiv_f86c9_26
section JT
variable {sk : SK} {own : String} {cc : ByteArray} {nL : Nat} {ret : Option FieldType} {d : Nat} {v0 : Option Value} {h0 : HS} {pc : Nat} {L : List (Option Value)} {st : List Value} {h : HS}
theorem j_topi {x v : Int32} (e : v = x) (k : Jx sk own cc nL ret d v0 h0 pc L (.int v :: st) h) : Jx sk own cc nL ret d v0 h0 pc L (.int x :: st) h := e ▸ k
theorem j_topl {x v : Int64} (e : v = x) (k : Jx sk own cc nL ret d v0 h0 pc L (.long v :: st) h) : Jx sk own cc nL ret d v0 h0 pc L (.long x :: st) h := e ▸ k
theorem j_copyB {a b n0 n1 index : Nat} {sp dp n : Int32} (hd : decode cc pc = .ok (.invokestatic index, 3)) (hw : Cond.methodLink own index arraycopyName ∈ GW ∧ Cond.native arraycopyName ∈ GW ∧ Cond.static arraycopyName ∈ GW ∧ Cond.initialized "java/lang/System" ∈ GW) (hs0 : ak sk a = some (1, n0)) (hs1 : ak sk b = some (1, n1)) (hb : cpok sp dp n n0 n1 = true)
    (hst : (st.map fun v => v.category).sum ≤ 8) (h' : HS) (hh : h' = cpI h a b sp.toNatClampNeg dp.toNatClampNeg n.toNatClampNeg) (k : Jx sk own cc nL ret d v0 h0 (pc + 3) L st h') : Jx sk own cc nL ret d v0 h0 pc L (.int n :: .int dp :: .ref b :: .int sp :: .ref a :: st) h := by
  unfold cpok at hb
  obtain ⟨h1, h2, h3, h4, h5⟩ := of_decide_eq_true hb
  exact j_copyI hd hw hs0 hs1 h1 h2 h3 h4 h5 hst h' hh k
theorem j_fdiv {index : Nat} {x y : Int64} (hd : decode cc pc = .ok (.invokestatic index, 3)) (hw : MW own index yJ9_floorDiv_f86c9 cJ9_floorDiv_f86c9 6 (some .long)) (hne : ¬ y = 0) (hst : (st.map fun v => v.category).sum ≤ 8) (k : Jx sk own cc nL ret d v0 h0 (pc + 3) L (.long (lfd x y) :: st) h) : Jx sk own cc nL ret d v0 h0 pc L (.long y :: .long x :: st) h := by
  intro p l e s m args below meth c D ca ad A H locs ls Z R hRf hRl C hK hP hD hS hl hR
  have hst' := st_tv (ad := ad) hst
  have hts := C.2.2.2.2
  have hrun := va_runS (g := F0 m pc ls (.long y :: .long x :: st.map (tv ad))) (As := [.long x, .long y]) (rest := st.map (tv ad)) (H := H) (locs := locs) (cells := 0) (slots := 0) (R := R) (below := below) (meth := meth) (e := e) (index := index) (n := 2) C (c_fdiv l x y hne)
    ⟨callB_of 2 hts (fun w hw' => by
      rcases List.mem_cons.mp hw' with rfl | hw'
      · exact gw_good _ hw.2.2.2
      · cases hw') rfl rfl rfl (hts _ hw.2.2.1) (hts _ hw.1) ⟨by decide +kernel, by decide +kernel, by decide +kernel⟩ ⟨by show 0 + 1 ≤ R.frames; omega, by show 8 + (6 + 11) + 0 ≤ R.locals; omega⟩, hts _ hw.2.1⟩
    ⟨fun a U g mk q => ⟨q.1, trivial⟩, fun U hU hW => ⟨rfl, trivial⟩⟩ rfl rfl hl.1 rfl (lv_room hst') hd ⟨Nat.zero_le _, Nat.zero_le _⟩
  intro T hT X
  obtain ⟨v, st₀, t, T', L9, e0, X', hL, e1, e2, ⟨hv, hh⟩, st9⟩ := hrun T hT X
  cases hv
  have hS1 : va_S A s.heap H (locs ++ L9) := ⟨hS.1, hS.2.1, fun q hq => by
      rcases List.mem_append.mp hq with h | h
      · exact hS.2.2 q h
      · exact (hL q h).elim⟩
  obtain ⟨t2, a1, b1⟩ := k p l e s m args below meth c D ca ad A H (locs ++ L9) ls Z R hRf hRl C hK hP hD hS1 hl hR T' (by rw [e1, hh, e0]) X'
  exact ⟨t2, st9 t2 a1, b1⟩
end JT
def skC : SK := [(0, 11, [11, 12, 13, 14, 26, 0, 15, 16, 17, 18, 19, 20]), (0, 0, [12, 13, 0, 0, 0, 27, 0, 0, 0, 28, 32, 33, 34, 35, 21, 22]), (0, 4, [36, 37, 38, 39, 40, 41, 42, 0, 0]), (0, 10, [43, 44, 0, 0, 0]), (0, 6, [45, 0]), (0, 1, [11, 12, 24, 46, 0, 0, 47, 48, 49, 0, 0, 0, 0, 0, 0]), (0, 5, [11, 12, 23, 0, 50, 51, 52, 53, 0, 0, 0, 0, 54, 0]), (0, 3, [11, 0, 0, 0, 0]), (0, 9, [11, 12, 25, 0, 55, 62, 0, 69, 70, 71, 72]), (0, 8, [11, 12, 73, 74, 75, 0, 0, 0]), (0, 7, [1, 1]), (0, 7, [1, 1]), (0, 7, [1, 1]), (0, 7, [1, 1]), (0, 2, [2, 0, 0, 0]), (0, 2, [2, 0, 0, 0]), (1, 80, []), (1, 3, []), (5, 3, [19]), (1, 15, []), (1, 15, []), (1, 15, []), (1, 3, []), (1, 3, []), (1, 3, []), (1, 3, []), (1, 15, []), (1, 15, []), (1, 15, []), (1, 15, []), (1, 15, []), (1, 15, []), (1, 15, []), (1, 6, []), (1, 6, []), (1, 20, []), (1, 60, []), (1, 15, []), (1, 15, []), (1, 15, []), (1, 6, []), (1, 6, []), (1, 6, []), (3, 6, []), (1, 4, []), (5, 6, [46]), (1, 3, []), (1, 3, []), (1, 3, []), (1, 3, []), (1, 3, []), (1, 3, []), (5, 6, [53]), (1, 3, []), (1, 3, []), (1, 3, []), (1, 3, []), (1, 3, []), (1, 3, []), (1, 12, []), (1, 12, []), (1, 12, []), (1, 12, []), (1, 15, []), (1, 15, []), (1, 15, []), (1, 0, []), (1, 0, [])]
def skM : SK := [(0, 12, [0, 11, 12, 13, 14, 15, 0, 0, 0, 0, 0, 0, 16, 17, 18, 0, 0, 0, 19, 0, 20, 0, 0, 21, 0, 22, 2, 0, 0, 0, 0, 0, 0, 23, 24, 25, 26, 0, 0, 0, 27, 28, 29, 30, 31, 0, 0, 0, 0, 0, 0, 32, 33, 0, 34, 35, 36, 37, 38, 39, 40, 41, 42, 43, 44, 45, 46, 47, 48]), (1, 15, []), (1, 15, []), (1, 15, []), (1, 15, []), (1, 15, []), (1, 6, []), (1, 6, []), (1, 3, []), (2, 80, []), (1, 24, []), (1, 60, []), (2, 60, []), (1, 16, []), (1, 16, []), (1, 16, []), (1, 16, []), (1, 6, []), (1, 6, []), (1, 6, []), (3, 6, []), (1, 15, []), (1, 6, []), (1, 384, []), (1, 12, []), (1, 12, []), (1, 12, []), (1, 12, []), (1, 6, []), (1, 6, []), (1, 15, []), (1, 15, []), (1, 15, []), (3, 3, []), (1, 3, []), (1, 45, []), (1, 3, []), (1, 3, []), (1, 3, [])]
theorem row_18 {i : Int32} (h : inb i 3 = true) : ak skC (19 + i.toNatClampNeg) = some (1, 15) := (by decide : ∀ j, j < 3 → ak skC (19 + j) = some (1, 15)) _ (inb_lt h)
theorem row_45 {i : Int32} (h : inb i 6 = true) : ak skC (46 + i.toNatClampNeg) = some (1, 3) := (by decide : ∀ j, j < 6 → ak skC (46 + j) = some (1, 3)) _ (inb_lt h)
theorem row_52 {i : Int32} (h : inb i 6 = true) : ak skC (53 + i.toNatClampNeg) = some (1, 3) := (by decide : ∀ j, j < 6 → ak skC (53 + j) = some (1, 3)) _ (inb_lt h)
