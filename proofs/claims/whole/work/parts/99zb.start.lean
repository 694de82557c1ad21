section LWS
theorem D_left {A : Nat → Prop} {w1 w2 : va_W} (h : va_D A (w1 ++ w2)) : va_D A w1 := ⟨fun i j p q hi hj e => h.1 i j p q (by rw [List.getElem?_append_left (List.getElem?_eq_some_iff.mp hi).1]; exact hi) (by rw [List.getElem?_append_left (List.getElem?_eq_some_iff.mp hj).1]; exact hj) e, fun k q hk => h.2 k q (by rw [List.getElem?_append_left (List.getElem?_eq_some_iff.mp hk).1]; exact hk)⟩
theorem ap_r {w1 w2 : va_W} {k : Nat} {q : Nat × va_E} (h : w2[k]? = some q) : (w1 ++ w2)[w1.length + k]? = some q := by
  rw [List.getElem?_append_right (by omega), Nat.add_sub_cancel_left]
  exact h
theorem ap_l {w1 w2 : va_W} {k : Nat} {q : Nat × va_E} (h : w1[k]? = some q) : (w1 ++ w2)[k]? = some q := by
  rw [List.getElem?_append_left (List.getElem?_eq_some_iff.mp h).1]
  exact h
theorem D_right {A : Nat → Prop} {w1 w2 : va_W} (h : va_D A (w1 ++ w2)) : va_D A w2 := ⟨fun i j p q hi hj e => by
  have := h.1 _ _ p q (ap_r hi) (ap_r hj) e
  omega, fun k q hk => h.2 _ q (ap_r hk)⟩
theorem D_apart {A : Nat → Prop} {w1 w2 : va_W} (h : va_D A (w1 ++ w2)) {i j : Nat} {p q : Nat × va_E} (hi : w1[i]? = some p) (hj : w2[j]? = some q) : p.1 ≠ q.1 := fun e => by
  have h1 := h.1 _ _ p q (ap_l hi) (ap_r hj) e
  have h2 := (List.getElem?_eq_some_iff.mp hi).1
  omega
theorem P_left {D : va_G} {cl : List vw_C} {w1 w2 : va_W} {H : Heap} (h : va_P D cl (w1 ++ w2) H) : va_P D cl w1 H := fun k q hk => h k q (ap_l hk)
theorem P_right {D : va_G} {cl : List vw_C} {w1 w2 : va_W} {H : Heap} (h : va_P D cl (w1 ++ w2) H) : va_P D cl w2 H := fun k q hk => h _ q (ap_r hk)
/-- behind a constructor's call, with the rest of the world beside it -/
theorem g_backF {cs : List AC} {pc cl sl : Nat} {p : Program} {l : Launch} {e : Env} {s : State} {m : MethodId} {args : Array Value} {below : List Frame} {meth : Method} {c : Code} {D : va_G} {ca ad : Nat → Nat} {A : Nat → Prop} {H : Heap} {locs : List Loc} {ls : Array Slot} {Z : State → Prop} {R : Room} {mc1 ms1 : Nat} {cs1 : List AC} {st0 rest : List Value} {wr : va_W} (hP : va_P D vwCl (wr ++ wlg ca ad cs) H) (hD : va_D A (wr ++ wlg ca ad cs)) (hS : va_S A s.heap H locs) (hA : ∀ q, s.heap.size ≤ q → A q)
    (hr : va_Run p l e R s m args below meth c H locs cl sl mc1 ms1 (F0 m pc ls st0) rest (fun st oc t => oc = .returned none ∧ (∃ ad' : Nat → Nat, (∀ k, k < cs.length → ad' k = ad k) ∧ va_P D vwCl (wlg ca ad' cs1) t.heap ∧ va_D (va_A (wlg ca ad cs) H.size) (wlg ca ad' cs1)) ∧ va_F (va_A (wlg ca ad cs) H.size) st t) (va_A (wlg ca ad cs) H.size))
    (kk : ∀ (ad' : Nat → Nat) (H1 : Heap) (locs1 : List Loc), (∀ k, k < cs.length → ad' k = ad k) → va_P D vwCl (wr ++ wlg ca ad' cs1) H1 → va_D A (wr ++ wlg ca ad' cs1) → va_S A s.heap H1 locs1 → W p l e R s m args below meth c H1 locs1 (cl + mc1) (sl + ms1) Z (F0 m (pc + 3) ls rest)) : W p l e R s m args below meth c H locs cl sl Z (F0 m pc ls st0) := by
  intro T hT X
  obtain ⟨v, st₀, t, T', L9, e0, X', hL, e1, e2, ⟨hv, ⟨ad', hag, hP1, hD1⟩, hz, hk⟩, st⟩ := hr T hT X
  cases hv
  rw [e0] at hz hk
  have hDc := D_right hD
  have hin : ∀ q, va_A (wlg ca ad cs) H.size q → A q := fun q hq => by
    rcases hq with ⟨k, e9, hq⟩ | hq
    · exact hDc.2 k _ hq
    · exact hA q (Nat.le_trans hS.1 hq)
  have hS1 : va_S A s.heap T'.heap (locs ++ L9) := ⟨Nat.le_trans hS.1 (by rw [e1]; exact hz), fun q h1 h2 => by
      rw [e1, hk q (Nat.lt_of_lt_of_le h1 hS.1) (fun z => h2 (hin q z))]
      exact hS.2.1 q h1 h2, fun q hq => by
      rcases List.mem_append.mp hq with h | h
      · exact hS.2.2 q h
      · exact hin _ (hL q h)⟩
  have out : ∀ (k : Nat) (q : Nat × va_E), wr[k]? = some q → ¬ va_A (wlg ca ad cs) H.size q.1 := fun k q hq z => by
    rcases z with ⟨j, e9, hj⟩ | z
    · exact D_apart hD hq hj rfl
    · have := (P_left hP k q hq).lt
      omega
  have hPr : va_P D vwCl wr T'.heap := (P_left hP).kept (fun k q hq => by rw [e1]; exact hk q.1 ((P_left hP k q hq).lt) (out k q hq))
  have hDr : va_D A (wr ++ wlg ca ad' cs1) := (D_left hD).app (hD1.weaken (fun k q _ h => hin q.1 h)) (fun i j x y hi hj exy => out i x hi (by rw [exy]; exact hD1.2 j y hj))
  obtain ⟨t2, a1, b1⟩ := kk ad' T'.heap (locs ++ L9) hag (hPr.app (by rw [e1]; exact hP1)) hDr hS1 T' rfl X'
  exact ⟨t2, st t2 a1, b1⟩
theorem wl_in {sk : SK} {ca ad : Nat → Nat} {h : HS} {cs : List AC} {pm : List Nat} (hp : ∀ k, k < sk.length → pm.getD k 0 < cs.length) {k : Nat} {q : Nat × va_E} (hq : (wld sk ca (fun k => ad (pm.getD k 0)) h)[k]? = some q) : ∃ (j : Nat) (y : Nat × va_E), (wlg ca ad cs)[j]? = some y ∧ y.1 = q.1 := by
  obtain ⟨r, h1, rfl⟩ := wld_inv hq
  have hk := (List.getElem?_eq_some_iff.mp h1).1
  exact ⟨pm.getD k 0, _, wlg_get (List.getElem?_eq_getElem (hp k hk)), rfl⟩
end LWS
