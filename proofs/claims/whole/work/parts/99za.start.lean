section STA
variable {s : State} {args : Array Value}
def stW : List Cond := NXs ++ (NGs ++ (XBs ++ (XSs.map (fun q => Cond.stringRef RX11 q.1 q.2) ++ [.arrayClass .int, .arrayClass .byte, .arrayClass .boolean, .arrayClass .long, .arrayOver (.array .int), .laysStatic Bundle.tN "UNASSIGNED_STACK" Bundle.steD, .laysStatic Bundle.tN "SUPPRESSED_SENTINEL" Bundle.listD, .initialized Bundle.tN])))
set_option maxRecDepth 20000 in
theorem stW_in : ∀ w ∈ stW, w ∈ lw_tbl := by decide +kernel
def stI : List (String × Nat) := [(RX0, 16), (RX1, 15), (RX2, 4), (RX3, 5), (RX4, 9), (RX5, 14), (RX6, 2), (RX7, 2), (RX8, 8), (RX9, 11), (RX10, 5), (RX11, 12), (RX12, 69)]
set_option maxRecDepth 20000 in
theorem stI_in : ∀ q ∈ stI, Cond.instantiable q.1 q.2 ∈ lw_tbl := by decide +kernel
theorem st_arr {ty : FieldType} (h : (Cond.arrayClass ty).before args s = true) : ∃ c, ArrOfT s c ty ∧ s.vm.findClass ("[" ++ ty.toString) = some c := by
  obtain ⟨cA, kA, comp, h1, h2, h3⟩ := Cond.arrayClass_spec h
  exact ⟨cA, fun n z => ⟨fun k h => (by cases h), kA, h2, comp, h3⟩, h1⟩
theorem st_KG (hts : ∀ w ∈ lw_tbl, w.before args s = true) : ∃ (D : va_G) (ca : Nat → Nat), KG D ca s := by
  have hw : ∀ w ∈ stW, w.before args s = true := fun w h => hts w (stW_in w h)
  have hg : ∀ w ∈ GW, w.before args s = true := fun w h => hts w (List.mem_filter.mp h).1
  have hi : ∀ q ∈ stI, (Cond.instantiable q.1 q.2).before args s = true := fun q h => hts _ (stI_in q h)
  have one : ∀ c : Nat, ∃ (cC : ClassId) (iS : Nat → Nat), ∀ q : vw_C, vwCl[c]? = some q → u_Kn s q.1 q.2.1 q.2.2 cC iS := by
    have mk : ∀ (C : String) (T : u_T) (N c : Nat), vwCl[c]? = some (C, T, N) → (∀ w ∈ u_ws C T N, w ∈ GW) → (C, N) ∈ stI → ∃ (cC : ClassId) (iS : Nat → Nat), ∀ q : vw_C, vwCl[c]? = some q → u_Kn s q.1 q.2.1 q.2.2 cC iS := fun C T N c e1 e2 e3 => by
      obtain ⟨cC, iS, h⟩ := u_known (C := C) (T := T) (N := N) (n := N) hg e2 (hi _ e3)
      exact ⟨cC, iS, fun q hq => by
        rw [e1] at hq
        cases hq
        exact h⟩
    intro c
    match c with
    | 0 => exact mk _ _ _ 0 rfl inG0 (by decide)
    | 1 => exact mk _ _ _ 1 rfl inG1 (by decide)
    | 2 => exact mk _ _ _ 2 rfl inG2 (by decide)
    | 3 => exact mk _ _ _ 3 rfl inG3 (by decide)
    | 4 => exact mk _ _ _ 4 rfl inG4 (by decide)
    | 5 => exact mk _ _ _ 5 rfl inG5 (by decide)
    | 6 => exact mk _ _ _ 6 rfl inG6 (by decide)
    | 7 => exact mk _ _ _ 7 rfl inG7 (by decide)
    | 8 => exact mk _ _ _ 8 rfl inG8 (by decide)
    | 9 => exact mk _ _ _ 9 rfl inG9 (by decide)
    | 10 => exact mk _ _ _ 10 rfl inG10 (by decide)
    | 11 => exact mk _ _ _ 11 rfl inG11 (by decide)
    | 12 => exact mk _ _ _ 12 rfl inG12 (by decide)
    | c + 13 => exact ⟨0, fun _ => 0, fun q hq => by cases hq⟩
  obtain ⟨c1, a1, f1⟩ := st_arr (hw (.arrayClass .int) (by decide +kernel))
  obtain ⟨c2, a2, f2⟩ := st_arr (hw (.arrayClass .byte) (by decide +kernel))
  obtain ⟨c3, a3, f3⟩ := st_arr (hw (.arrayClass .boolean) (by decide +kernel))
  obtain ⟨c4, a4, f4⟩ := st_arr (hw (.arrayClass .long) (by decide +kernel))
  obtain ⟨comp, c5, k5, g1, -, g3, g4, g5⟩ := arrayOverA_spec (hw (.arrayOver (.array .int)) (by decide +kernel))
  have e1 : comp = c1 := Option.some.inj (g1.symm.trans f1)
  refine ⟨(fun c => (one c).choose, fun c => (one c).choose_spec.choose), fun k => if k = 1 then c1 else if k = 2 then c2 else if k = 3 then c3 else if k = 4 then c4 else c5, ⟨⟨fun c q hq => (one c).choose_spec.choose_spec q hq, fun k q hq => ?_⟩, fun w h => ?_⟩, fun w h => ?_, ?_⟩
  · match k, hq with
    | 0, hq => cases hq; exact ⟨a1, f1⟩
    | 1, hq => cases hq; exact ⟨a2, f2⟩
    | 2, hq => cases hq; exact ⟨a3, f3⟩
    | 3, hq => cases hq; exact ⟨a4, f4⟩
    | 4, hq => cases hq; exact ⟨fun n z => ⟨fun k h => (by cases h), k5, g3, comp, g4⟩, g5⟩
    | k + 5, hq => cases hq
  · have hh := hw w (List.mem_append_left _ h)
    simp only [NXs, List.mem_cons, List.not_mem_nil, or_false] at h
    rcases h with rfl | rfl | rfl | rfl | rfl | rfl <;> exact va_Nw.of rfl hh
  · have hh := hw w (List.mem_append_right _ (List.mem_append_left _ h))
    simp only [NGs, List.mem_cons, List.not_mem_nil, or_false] at h
    rcases h with rfl | rfl | rfl | rfl | rfl | rfl | rfl | rfl | rfl <;> exact va_Nw.of rfl hh
  · exact ⟨k5, g3, by rw [g4, e1]; rfl⟩
def stG : List Cond := XSs.map (fun q => Cond.exactly (.string RX11 q.1) "java/lang/String") ++ [.isRef (.static Bundle.tN "UNASSIGNED_STACK" Bundle.steD), .isRef (.static Bundle.tN "SUPPRESSED_SENTINEL" Bundle.listD)]
set_option maxRecDepth 20000 in
theorem stG_in : ∀ w ∈ stG, w ∈ flatC (Jvm.Cond.and given_1 narrow_1) := by decide +kernel
theorem st_str {own C : String} {k : Nat} (h : (Cond.exactly (.string own k) C).before args s = true) : ∃ a, (Term.string own k).eval args s none [] s = some (.ref a) := by
  simp only [Cond.before, Cond.holds, Cond.value] at h
  cases he : (Term.string own k).eval args s none [] s with
  | none => simp [he] at h
  | some v =>
    cases v with
    | ref a => exact ⟨a, rfl⟩
    | _ =>
      exfalso
      rw [he] at h
      cases hf : s.vm.findClass C <;> simp [hf] at h
theorem st_XE (hts : ∀ w ∈ lw_tbl, w.before args s = true) (hgv : (Jvm.Cond.and given_1 narrow_1).before args s = true) : XE (A0 s) s s.heap := by
  have hw : ∀ w ∈ stW, w.before args s = true := fun w h => hts w (stW_in w h)
  have hg : ∀ w ∈ stG, w.before args s = true := fun w h => flat_of_before _ hgv w (stG_in w h)
  have hA : ∀ a : Nat, a < s.heap.size → ¬ A0 s a := fun a ha => Nat.not_le.mpr ha
  refine ⟨fun w h => ?_, fun q hq => ?_, ?_, ?_⟩
  · have hh := hw w (List.mem_append_right _ (List.mem_append_right _ (List.mem_append_left _ h)))
    simp only [XBs, List.mem_cons, List.not_mem_nil, or_false] at h
    rcases h with rfl | rfl | rfl | rfl <;> exact va_Nw.of rfl hh
  · have h1 := hw (.stringRef RX11 q.1 q.2) (List.mem_append_right _ (List.mem_append_right _ (List.mem_append_right _ (List.mem_append_left _ (List.mem_map.mpr ⟨q, hq, rfl⟩)))))
    obtain ⟨a, h2⟩ := st_str (hg (.exactly (.string RX11 q.1) "java/lang/String") (List.mem_append_left _ (List.mem_map.mpr ⟨q, hq, rfl⟩)))
    exact ⟨a, vk_R.of h1 h2⟩
  · exact vx_Zqof (hw _ (by decide +kernel)) (hw (.initialized Bundle.tN) (by decide +kernel)) (hg _ (by decide +kernel)) hA
  · exact vx_Zqof (hw _ (by decide +kernel)) (hw (.initialized Bundle.tN) (by decide +kernel)) (hg _ (by decide +kernel)) hA
end STA
