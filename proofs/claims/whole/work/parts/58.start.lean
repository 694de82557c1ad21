def mxI {α β : Type} (f : Nat → α → β) : Nat → List α → List β
  | _, [] => []
  | i, a :: r => f i a :: mxI f (i + 1) r
theorem mxI_get {α β : Type} (f : Nat → α → β) : ∀ (l : List α) (i k : Nat), (mxI f i l)[k]? = (l[k]?).map (f (i + k))
  | [], i, k => rfl
  | a :: r, i, 0 => rfl
  | a :: r, i, k + 1 => by
    show (mxI f (i + 1) r)[k]? = (r[k]?).map (f (i + (k + 1)))
    rw [mxI_get f r (i + 1) k, show i + 1 + k = i + (k + 1) by omega]
theorem mapIdx_mx {α β : Type} (f : Nat → α → β) (l : List α) : l.mapIdx f = mxI f 0 l := by
  apply List.ext_getElem?
  intro k
  rw [List.getElem?_mapIdx, mxI_get, Nat.zero_add]
def celI (ca ad : Nat → Nat) (h : HS) (a : Nat) (q : Nat × Nat × List Nat) : va_E := match q.1 with
  | 0 => .inr (q.2.1, mxI (fun k t => fv ad h a k t) 0 q.2.2)
  | 4 => .inl (ca 4, q.2.1, .inr (.inl (h.2.1 a)))
  | 5 => .inl (ca 5, q.2.1, .inr (.inr (.inr (.inr (fun j => ((List.range q.2.1).map (fun i => ad (q.2.2.headD 0 + i)))[j]?)))))
  | t => .inl (ca t, q.2.1, .inl (h.1 a))
def wldI (sk : SK) (ca ad : Nat → Nat) (h : HS) : va_W := mxI (fun a q => (ad a, celI ca ad h a q)) 0 sk
def reJ (ca ad : Nat → Nat) (q : AC) : va_E := match q.1 with
  | 0 => .inr (q.2.1, q.2.2.1.map (tv ad))
  | 5 => .inl (ca 5, q.2.1, .inr (.inr (.inr (.inr (fun j => ((List.range q.2.1).map (fun i => ad (bsR q.2.2.1 + i)))[j]?)))))
  | t => .inl (ca t, q.2.1, .inl q.2.2.2)
def wlgI (ca ad : Nat → Nat) (cs : List AC) : va_W := mxI (fun a q => (ad a, reJ ca ad q)) 0 cs
theorem rng_get {n j : Nat} (f : Nat → Nat) (hj : j < n) : ((List.range n).map f)[j]? = some (f j) := by
  rw [List.getElem?_map, List.getElem?_range hj]
  rfl
theorem wldI_get {sk : SK} {ca ad : Nat → Nat} {h : HS} {k : Nat} {q : Nat × Nat × List Nat} (hq : sk[k]? = some q) : (wldI sk ca ad h)[k]? = some (ad k, celI ca ad h k q) := by
  unfold wldI
  rw [mxI_get, hq, Nat.zero_add]
  rfl
theorem arrV_eq {c : ClassId} {N : Nat} {f g : Nat → Value} (h : ∀ j, j < N → f j = g j) : arrV c N f = arrV c N g := by
  unfold arrV
  have e : (fun j : Fin N => f j.val) = (fun j : Fin N => g j.val) := funext fun j => h j.val j.isLt
  rw [e]
theorem wldI_P {sk : SK} {D : va_G} {ca ad : Nat → Nat} {h : HS} {H : Heap} (hP : va_P D vwCl (wldI sk ca ad h) H) : va_P D vwCl (wld sk ca ad h) H := by
  intro k x hx
  obtain ⟨q, hq, rfl⟩ := wld_inv hx
  have h1 := hP k (ad k, celI ca ad h k q) (wldI_get hq)
  obtain ⟨t, n, l⟩ := q
  match t with
  | 0 =>
    have e : cel ca ad h k (0, n, l) = celI ca ad h k (0, n, l) := by
      show (Sum.inr (n, l.mapIdx (fun j t => fv ad h k j t)) : va_E) = Sum.inr (n, mxI (fun j t => fv ad h k j t) 0 l)
      rw [mapIdx_mx]
    rw [e]
    exact h1
  | 1 => exact h1
  | 2 => exact h1
  | 3 => exact h1
  | 4 => exact h1
  | 5 =>
    have h2 : H[ad k]? = some (vp_cell (ca 5) (n, .inr (.inr (.inr (.inr (fun j => ((List.range n).map (fun i => ad (l.headD 0 + i)))[j]?)))))) := h1
    show H[ad k]? = some (vp_cell (ca 5) (n, .inr (.inr (.inr (.inr (fun j => some (ad (l.headD 0 + j))))))))
    rw [h2, vp_cell_q, vp_cell_q]
    refine congrArg some (arrV_eq fun j hj => ?_)
    rw [rng_get _ hj]
  | t + 6 => exact h1
theorem wldI_D {sk : SK} {ca ad : Nat → Nat} {h : HS} {A : Nat → Prop} (hD : va_D A (wldI sk ca ad h)) : va_D A (wld sk ca ad h) := by
  have key : ∀ (k : Nat) (x : Nat × va_E), (wld sk ca ad h)[k]? = some x → ∃ y : Nat × va_E, (wldI sk ca ad h)[k]? = some y ∧ y.1 = x.1 := fun k x hx => by
    obtain ⟨q, hq, rfl⟩ := wld_inv hx
    exact ⟨(ad k, celI ca ad h k q), wldI_get hq, rfl⟩
  refine ⟨fun i j x y hi hj hxy => ?_, fun k x hx => ?_⟩
  · obtain ⟨x', h1, e1⟩ := key i x hi
    obtain ⟨y', h2, e2⟩ := key j y hj
    exact hD.1 i j x' y' h1 h2 (by rw [e1, e2, hxy])
  · obtain ⟨x', h1, e1⟩ := key k x hx
    rw [← e1]
    exact hD.2 k x' h1
theorem P_sub {D : va_G} {cl : List vw_C} {ws ws' : va_W} {H : Heap} (h : va_P D cl ws H) (is : List Nat) (hs : is.map (fun i => ws[i]?) = ws'.map some) : va_P D cl ws' H := by
  intro k q hk
  have h1 : (is.map (fun i => ws[i]?))[k]? = some (some q) := by rw [hs, List.getElem?_map, hk]; rfl
  rw [List.getElem?_map] at h1
  cases hi : is[k]? with
  | none => rw [hi] at h1; cases h1
  | some i => rw [hi] at h1; exact h i q (Option.some.inj h1)
theorem wlgI_inv {ca ad : Nat → Nat} {cs : List AC} {k : Nat} {x : Nat × va_E} (hx : (wlgI ca ad cs)[k]? = some x) : ∃ q, cs[k]? = some q ∧ x = (ad k, reJ ca ad q) := by
  unfold wlgI at hx
  rw [mxI_get, Nat.zero_add] at hx
  cases hq : cs[k]? with
  | none => rw [hq] at hx; cases hx
  | some q => rw [hq] at hx; exact ⟨q, rfl, (Option.some.inj hx).symm⟩
theorem wlgI_P {D : va_G} {ca ad : Nat → Nat} {cs : List AC} {H : Heap} (hP : va_P D vwCl (wlg ca ad cs) H) : va_P D vwCl (wlgI ca ad cs) H := by
  intro k x hx
  obtain ⟨q, hq, rfl⟩ := wlgI_inv hx
  have h1 := hP k _ (wlg_get hq)
  obtain ⟨t, n, l, f⟩ := q
  match t with
  | 0 => exact h1
  | 1 => exact h1
  | 2 => exact h1
  | 3 => exact h1
  | 4 => exact h1
  | 5 =>
    have h2 : H[ad k]? = some (vp_cell (ca 5) (n, .inr (.inr (.inr (.inr (fun j => if j < n then some (ad (bsR l + j)) else none)))))) := h1
    show H[ad k]? = some (vp_cell (ca 5) (n, .inr (.inr (.inr (.inr (fun j => ((List.range n).map (fun i => ad (bsR l + i)))[j]?))))))
    rw [h2, vp_cell_q, vp_cell_q]
    refine congrArg some (arrV_eq fun j hj => ?_)
    rw [rng_get _ hj, if_pos hj]
  | t + 6 => exact h1
theorem wlgI_D {ca ad : Nat → Nat} {cs : List AC} {A : Nat → Prop} (hD : va_D A (wlg ca ad cs)) : va_D A (wlgI ca ad cs) := by
  have key : ∀ (k : Nat) (x : Nat × va_E), (wlgI ca ad cs)[k]? = some x → ∃ y : Nat × va_E, (wlg ca ad cs)[k]? = some y ∧ y.1 = x.1 := fun k x hx => by
    obtain ⟨q, hq, rfl⟩ := wlgI_inv hx
    exact ⟨_, wlg_get hq, rfl⟩
  refine ⟨fun i j x y hi hj hxy => ?_, fun k x hx => ?_⟩
  · obtain ⟨x', h1, e1⟩ := key i x hi
    obtain ⟨y', h2, e2⟩ := key j y hj
    exact hD.1 i j x' y' h1 h2 (by rw [e1, e2, hxy])
  · obtain ⟨x', h1, e1⟩ := key k x hx
    rw [← e1]
    exact hD.2 k x' h1
def h0CI : Nat → Nat → Int32 := fun a => match a with
  | 1 => fun k => match k with
    | 8 => 1
    | _ => 0
  | 3 => fun k => match k with
    | 3 => 1000
    | _ => 0
  | 14 => fun k => match k with
    | 3 => (-1)
    | _ => 0
  | 15 => fun k => match k with
    | 3 => (-1)
    | _ => 0
  | 17 => (upd (upd (upd f0 0 5) 1 200) 2 50)
  | 22 => (upd (upd (upd f0 0 (-1)) 1 (-1)) 2 (-1))
  | _ => f0
def h0CR : Nat → Nat → Option Nat := fun a => match a with
  | 14 => fun k => match k with
    | 0 => some 66
    | _ => none
  | 15 => fun k => match k with
    | 0 => some 67
    | _ => none
  | _ => fun _ => none
def h0C : HS := (h0CI, fun _ _ => 0, h0CR)
def h0MI : Nat → Nat → Int32 := fun a => match a with
  | 0 => fun k => match k with
    | 9 => 1000
    | 17 => 1
    | _ => 0
  | 8 => (upd (upd (upd f0 0 5) 1 200) 2 50)
  | _ => f0
def h0MR : Nat → Nat → Option Nat := fun a => match a with
  | _ => fun _ => none
def h0M : HS := (h0MI, fun _ _ => 0, h0MR)
def pmC : List Nat := [0, 1, 2, 10, 24, 27, 34, 41, 42, 63, 67, 22, 23, 35, 28, 43, 26, 13, 14, 15, 16, 17, 18, 19, 20, 21, 3, 4, 5, 6, 7, 8, 9, 11, 12, 25, 30, 31, 32, 33, 36, 37, 38, 39, 40, 45, 46, 47, 48, 49, 50, 51, 52, 53, 54, 55, 56, 57, 58, 59, 60, 61, 62, 64, 65, 66, 29, 44]
def csFC : List AC := [(0, 11, [.ref 1, .ref 2, .ref 10, .ref 24, .ref 26, .int 0, .ref 27, .ref 34, .ref 41, .ref 42, .ref 63, .ref 67], f0), (0, 0, [.ref 2, .ref 10, .int 0, .int 0, .int 0, .ref 13, .int 0, .int 0, .int 1, .ref 14, .ref 18, .ref 19, .ref 20, .ref 21, .ref 22, .ref 23], f0), (0, 4, [.ref 3, .ref 4, .ref 5, .ref 6, .ref 7, .ref 8, .ref 9, .int 0, .int 0], f0), (1, 15, [], f0), (1, 15, [], f0), (1, 15, [], f0), (1, 15, [], f0), (1, 15, [], f0), (1, 15, [], f0), (1, 15, [], f0), (0, 10, [.ref 11, .ref 12, .int 0, .int 1000, .int 0], f0), (1, 6, [], f0), (1, 6, [], f0), (1, 3, [], (upd (upd (upd f0 0 5) 1 200) 2 50)), (5, 3, [.ref 15], f0), (1, 15, [], f0), (1, 15, [], f0), (1, 15, [], f0), (1, 3, [], (upd (upd (upd f0 0 (-1)) 1 (-1)) 2 (-1))), (1, 3, [], f0), (1, 3, [], f0), (1, 3, [], f0), (0, 7, [.long 0, .long 0], f0), (0, 7, [.long 0, .long 0], f0), (0, 6, [.ref 25, .int 0], f0), (1, 20, [], f0), (1, 80, [], f0), (0, 1, [.ref 1, .ref 2, .ref 28, .ref 30, .int 0, .int 0, .ref 31, .ref 32, .ref 33, .int 0, .int 0, .int 0, .int 0, .int 0, .int 0], f0), (0, 2, [.ref 29, .int 0, .int 0, .int (-1)], f0), (1, 0, [], f0), (1, 60, [], f0), (1, 15, [], f0), (1, 15, [], f0), (1, 15, [], f0), (0, 5, [.ref 1, .ref 2, .ref 35, .int 0, .ref 36, .ref 37, .ref 38, .ref 39, .int 0, .int 0, .int 0, .int 0, .ref 40, .int 0], f0), (0, 7, [.long 0, .long 0], f0), (1, 6, [], f0), (1, 6, [], f0), (1, 6, [], f0), (3, 6, [], f0), (1, 4, [], f0), (0, 3, [.ref 1, .int 0, .int 0, .int 0, .int 0], f0), (0, 9, [.ref 1, .ref 2, .ref 43, .int 0, .ref 45, .ref 52, .int 0, .ref 59, .ref 60, .ref 61, .ref 62], f0), (0, 2, [.ref 44, .int 0, .int 0, .int (-1)], f0), (1, 0, [], f0), (5, 6, [.ref 46], f0), (1, 3, [], f0), (1, 3, [], f0), (1, 3, [], f0), (1, 3, [], f0), (1, 3, [], f0), (1, 3, [], f0), (5, 6, [.ref 53], f0), (1, 3, [], f0), (1, 3, [], f0), (1, 3, [], f0), (1, 3, [], f0), (1, 3, [], f0), (1, 3, [], f0), (1, 12, [], f0), (1, 12, [], f0), (1, 12, [], f0), (1, 12, [], f0), (0, 8, [.ref 1, .ref 2, .ref 64, .ref 65, .ref 66, .int 0, .int 0, .int 0], f0), (1, 15, [], f0), (1, 15, [], f0), (1, 15, [], f0), (0, 7, [.long 0, .long 0], f0)]
set_option maxRecDepth 100000 in
set_option maxHeartbeats 800000 in
theorem pmC_1 (ca ad : Nat → Nat) : pmC.map (fun i => (wlgI ca ad csFC)[i]?) = (wldI skC ca (fun k => ad (pmC.getD k 0)) h0C).map some := rfl
theorem pmC_P {D : va_G} {ca ad : Nat → Nat} {H : Heap} (h : va_P D vwCl (wlg ca ad csFC) H) : va_P D vwCl (wld skC ca (fun k => ad (pmC.getD k 0)) h0C) H := wldI_P (P_sub (wlgI_P h) pmC (pmC_1 ca ad))
theorem pmC_D {ca ad : Nat → Nat} {A : Nat → Prop} (h : va_D A (wlg ca ad csFC)) : va_D A (wld skC ca (fun k => ad (pmC.getD k 0)) h0C) := wldI_D ((wlgI_D h).sub pmC (by decide +kernel) (pmC_1 ca ad))
def pmM : List Nat := [0, 1, 2, 3, 4, 5, 6, 7, 8, 9, 10, 11, 12, 13, 14, 15, 16, 17, 18, 19, 20, 21, 22, 23, 24, 25, 26, 27, 28, 29, 30, 31, 32, 33, 34, 35, 36, 37, 38]
def csFM : List AC := [(0, 12, [.int 0, .ref 1, .ref 2, .ref 3, .ref 4, .ref 5, .int 0, .int 0, .int 0, .int 1000, .int 0, .int 0, .ref 6, .ref 7, .ref 8, .int 0, .int 0, .int 1, .ref 9, .int 0, .ref 10, .int 0, .int 0, .ref 11, .int 0, .ref 12, .null, .int 0, .int 0, .int 0, .int 0, .int 0, .int 0, .ref 13, .ref 14, .ref 15, .ref 16, .int 0, .int 0, .int 0, .ref 17, .ref 18, .ref 19, .ref 20, .ref 21, .int 0, .int 0, .int 0, .int 0, .int 0, .int 0, .ref 22, .ref 23, .int 0, .ref 24, .ref 25, .ref 26, .ref 27, .ref 28, .ref 29, .ref 30, .ref 31, .ref 32, .ref 33, .ref 34, .ref 35, .ref 36, .ref 37, .ref 38], f0), (1, 15, [], f0), (1, 15, [], f0), (1, 15, [], f0), (1, 15, [], f0), (1, 15, [], f0), (1, 6, [], f0), (1, 6, [], f0), (1, 3, [], (upd (upd (upd f0 0 5) 1 200) 2 50)), (2, 80, [], f0), (1, 24, [], f0), (1, 60, [], f0), (2, 60, [], f0), (1, 16, [], f0), (1, 16, [], f0), (1, 16, [], f0), (1, 16, [], f0), (1, 6, [], f0), (1, 6, [], f0), (1, 6, [], f0), (3, 6, [], f0), (1, 15, [], f0), (1, 6, [], f0), (1, 384, [], f0), (1, 12, [], f0), (1, 12, [], f0), (1, 12, [], f0), (1, 12, [], f0), (1, 6, [], f0), (1, 6, [], f0), (1, 15, [], f0), (1, 15, [], f0), (1, 15, [], f0), (3, 3, [], f0), (1, 3, [], f0), (1, 45, [], f0), (1, 3, [], f0), (1, 3, [], f0), (1, 3, [], f0)]
set_option maxRecDepth 100000 in
set_option maxHeartbeats 800000 in
theorem pmM_1 (ca ad : Nat → Nat) : pmM.map (fun i => (wlgI ca ad csFM)[i]?) = (wldI skM ca (fun k => ad (pmM.getD k 0)) h0M).map some := rfl
theorem pmM_P {D : va_G} {ca ad : Nat → Nat} {H : Heap} (h : va_P D vwCl (wlg ca ad csFM) H) : va_P D vwCl (wld skM ca (fun k => ad (pmM.getD k 0)) h0M) H := wldI_P (P_sub (wlgI_P h) pmM (pmM_1 ca ad))
theorem pmM_D {ca ad : Nat → Nat} {A : Nat → Prop} (h : va_D A (wlg ca ad csFM)) : va_D A (wld skM ca (fun k => ad (pmM.getD k 0)) h0M) := wldI_D ((wlgI_D h).sub pmM (by decide +kernel) (pmM_1 ca ad))
