section LWM
variable {p : Program} {l : Launch} {e : Env} {s : State} {m : MethodId} {b L : Nat} {xs : Nat → Int32} {below : List Frame} {meth : Method} {c : Code} {D : va_G} {ca adc adm : Nat → Nat} {ao : Nat} {Z : State → Prop}
theorem sw_all {i cl sl : Nat} {hc hm : HS} {x : Int64} (X : LX p l s m c b L xs D ca) (hi : i + 6 ≤ L) (hR : RR hc hm) (hcl9 : cl + 1 ≤ 601024) (hsl9 : sl + 6 ≤ 7293034) (next : NXT p l e s m b below meth c D ca adc adm ao Z i (cl + 1) (sl + 6)) {H : Heap} {locs : List Loc} {ls : Array Slot} (hP : va_P D vwCl (wl ca adc adm ao hc hm x) H) (hD : va_D (A0 s) (wl ca adc adm ao hc hm x)) (hS : va_S (A0 s) s.heap H locs) (hl : lv_has ls 7 (lv5 b adc adm ao i)) : ∀ j : Nat, j < 64 → W p l e room_1 s m #[Value.ref b] below meth c H locs cl sl Z (F0 m 40 ls [.int (nI j)])
  | 0, _ => sw_0 X hi hR hcl9 hsl9 next hP hD hS hl
  | 1, _ => sw_1 X hi hR hcl9 hsl9 next hP hD hS hl
  | 2, _ => sw_2 X hi hR hcl9 hsl9 next hP hD hS hl
  | 3, _ => sw_3 X hi hR hcl9 hsl9 next hP hD hS hl
  | 4, _ => sw_4 X hi hR hcl9 hsl9 next hP hD hS hl
  | 5, _ => sw_5 X hi hR hcl9 hsl9 next hP hD hS hl
  | 6, _ => sw_6 X hi hR hcl9 hsl9 next hP hD hS hl
  | 7, _ => sw_7 X hi hR hcl9 hsl9 next hP hD hS hl
  | 8, _ => sw_8 X hi hR hcl9 hsl9 next hP hD hS hl
  | 9, _ => sw_9 X hi hR hcl9 hsl9 next hP hD hS hl
  | 10, _ => sw_10 X hi hR hcl9 hsl9 next hP hD hS hl
  | 11, _ => sw_11 X hi hR hcl9 hsl9 next hP hD hS hl
  | 12, _ => sw_12 X hi hR hcl9 hsl9 next hP hD hS hl
  | 13, _ => sw_13 X hi hR hcl9 hsl9 next hP hD hS hl
  | 14, _ => sw_14 X hi hR hcl9 hsl9 next hP hD hS hl
  | 15, _ => sw_15 X hi hR hcl9 hsl9 next hP hD hS hl
  | 16, _ => sw_16 X hi hR hcl9 hsl9 next hP hD hS hl
  | 17, _ => sw_17 X hi hR hcl9 hsl9 next hP hD hS hl
  | 18, _ => sw_18 X hi hR hcl9 hsl9 next hP hD hS hl
  | 19, _ => sw_19 X hi hR hcl9 hsl9 next hP hD hS hl
  | 20, _ => sw_20 X hi hR hcl9 hsl9 next hP hD hS hl
  | 21, _ => sw_21 X hi hR hcl9 hsl9 next hP hD hS hl
  | 22, _ => sw_22 X hi hR hcl9 hsl9 next hP hD hS hl
  | 23, _ => sw_23 X hi hR hcl9 hsl9 next hP hD hS hl
  | 24, _ => sw_24 X hi hR hcl9 hsl9 next hP hD hS hl
  | 25, _ => sw_25 X hi hR hcl9 hsl9 next hP hD hS hl
  | 26, _ => sw_26 X hi hR hcl9 hsl9 next hP hD hS hl
  | 27, _ => sw_27 X hi hR hcl9 hsl9 next hP hD hS hl
  | 28, _ => sw_28 X hi hR hcl9 hsl9 next hP hD hS hl
  | 29, _ => sw_29 X hi hR hcl9 hsl9 next hP hD hS hl
  | 30, _ => sw_30 X hi hR hcl9 hsl9 next hP hD hS hl
  | 31, _ => sw_31 X hi hR hcl9 hsl9 next hP hD hS hl
  | 32, _ => sw_32 X hi hR hcl9 hsl9 next hP hD hS hl
  | 33, _ => sw_33 X hi hR hcl9 hsl9 next hP hD hS hl
  | 34, _ => sw_34 X hi hR hcl9 hsl9 next hP hD hS hl
  | 35, _ => sw_35 X hi hR hcl9 hsl9 next hP hD hS hl
  | 36, _ => sw_36 X hi hR hcl9 hsl9 next hP hD hS hl
  | 37, _ => sw_37 X hi hR hcl9 hsl9 next hP hD hS hl
  | 38, _ => sw_38 X hi hR hcl9 hsl9 next hP hD hS hl
  | 39, _ => sw_39 X hi hR hcl9 hsl9 next hP hD hS hl
  | 40, _ => sw_40 X hi hR hcl9 hsl9 next hP hD hS hl
  | 41, _ => sw_41 X hi hR hcl9 hsl9 next hP hD hS hl
  | 42, _ => sw_42 X hi hR hcl9 hsl9 next hP hD hS hl
  | 43, _ => sw_43 X hi hR hcl9 hsl9 next hP hD hS hl
  | 44, _ => sw_44 X hi hR hcl9 hsl9 next hP hD hS hl
  | 45, _ => sw_45 X hi hR hcl9 hsl9 next hP hD hS hl
  | 46, _ => sw_46 X hi hR hcl9 hsl9 next hP hD hS hl
  | 47, _ => sw_47 X hi hR hcl9 hsl9 next hP hD hS hl
  | 48, _ => sw_48 X hi hR hcl9 hsl9 next hP hD hS hl
  | 49, _ => sw_49 X hi hR hcl9 hsl9 next hP hD hS hl
  | 50, _ => sw_50 X hi hR hcl9 hsl9 next hP hD hS hl
  | 51, _ => sw_51 X hi hR hcl9 hsl9 next hP hD hS hl
  | j + 52, hj => by
    refine lv_tableOut (tgt := 2382) X.1.1 X.1.2.1 dL_law_40 (Or.inr (by rw [nI_ti hj]; omega)) (by decide) ?_
    refine W.widen (k := cl + 1) (n := sl + 6) (by omega) (by omega) ?_
    exact next hc hm x hR H locs ls hP hD hS hl
theorem law_loop (X : LX p l s m c b L xs D ca) (fin : ∀ (i : Nat) (hc hm : HS) (x : Int64) (cl sl : Nat), cl ≤ 601024 → sl ≤ 7293034 → LH p l e s m b below meth c D ca adc adm ao Z i 2388 hc hm x cl sl) : ∀ (k i : Nat) (hc hm : HS) (x : Int64) (cl sl : Nat), RR hc hm → L < i + 6 * k + 6 → i ≤ L + 6 → cl + k ≤ 601024 → sl + 6 * k ≤ 7293034 → LH p l e s m b below meth c D ca adc adm ao Z i 23 hc hm x cl sl := by
  have C := X.1
  obtain ⟨-, -, -, -, hX, hbl, hL⟩ := id X
  have e6 : ∀ n : Nat, n ≤ 3072 → (nI n - 6).toInt = (n : Int) - 6 := fun n hn => by
    have i1 : nI n - 6 = Int32.ofInt ((n : Int) - 6) := by
      rw [Int32.ofInt_sub]
      rfl
    rw [i1, Int32.toInt_ofInt_of_le (by omega) (by omega)]
  have cmp : ∀ i : Nat, i ≤ 3078 → (nI L - 6 < nI i ↔ L < i + 6) := fun i hi => by
    rw [Int32.lt_iff_toInt_lt, e6 L hL, nI_toInt (by omega)]
    omega
  -- to the switch, or to the end
  have head : ∀ (i : Nat) (hc hm : HS) (x : Int64) (cl sl : Nat), i ≤ L + 6 → cl ≤ 601024 → sl ≤ 7293034 → (i + 6 ≤ L → ∀ (H : Heap) (locs : List Loc) (ls : Array Slot), va_P D vwCl (wl ca adc adm ao hc hm x) H → va_D (A0 s) (wl ca adc adm ao hc hm x) → va_S (A0 s) s.heap H locs → lv_has ls 7 (lv5 b adc adm ao i) → ∀ j : Nat, j < 64 → W p l e room_1 s m #[Value.ref b] below meth c H locs cl sl Z (F0 m 40 ls [.int (nI j)])) → LH p l e s m b below meth c D ca adc adm ao Z i 23 hc hm x cl sl := by
    intro i hc hm x cl sl hi hcl hsl sw H locs ls hP hD hS hl
    refine lv_iload C.1 C.2.1 dL_law_23 (lv_at hl 4 rfl) ?_
    refine lv_aload_n C.1 C.2.1 dL_law_25 rfl (lv_at hl 0 rfl) ?_
    refine va_slen (A := A0 s) C.1 C.2.1 hX hbl (Nat.not_le.mpr hbl) hS dL_law_26 ?_
    refine lv_bipush (v := 6) C.1 C.2.1 dL_law_27 (by decide) ?_
    refine lv_isub C.1 C.2.1 dL_law_29 ?_
    refine lv_icmp_gt (tgt := 2388) C.1 C.2.1 dL_law_30 (by decide) (fun _ => ?_) (fun h => ?_)
    · exact fin i hc hm x cl sl hcl hsl H locs ls hP hD hS hl
    · have i6 : i + 6 ≤ L := by
        by_cases z : i + 6 ≤ L
        · exact z
        · exact absurd ((cmp i (by omega)).mpr (by omega)) h
      refine lv_aload_n C.1 C.2.1 dL_law_33 rfl (lv_at hl 0 rfl) ?_
      refine lv_iload C.1 C.2.1 dL_law_34 (lv_at hl 4 rfl) ?_
      refine va_sld (A := A0 s) C.1 C.2.1 hX hbl (Nat.not_le.mpr hbl) hS (vp_in_nI (show i < L by omega) (by omega)) dL_law_36 ?_
      refine lv_bipush (v := 63) C.1 C.2.1 dL_law_37 (by decide) ?_
      refine lv_iand C.1 C.2.1 dL_law_39 ?_
      obtain ⟨j, hj, ej⟩ := pk_andE (xs (nI i).toNatClampNeg) (m := 63) 6 (by decide)
      rw [ej]
      exact sw i6 H locs ls hP hD hS hl j hj
  intro k
  induction k with
  | zero =>
    intro i hc hm x cl sl hR h1 h2 h3 h4
    exact head i hc hm x cl sl h2 (by omega) (by omega) (fun z => absurd h1 (by omega))
  | succ k ih =>
    intro i hc hm x cl sl hR h1 h2 h3 h4
    refine head i hc hm x cl sl h2 (by omega) (by omega) (fun i6 H locs ls hP hD hS hl => sw_all X i6 hR (by omega) (by omega) ?_ hP hD hS hl)
    intro hc1 hm1 x1 hR1 H1 locs1 ls1 hP1 hD1 hS1 hl1
    refine lv_iinc (v := nI (i + 6)) (lv' := [(4, .int (nI (i + 6))), (0, .ref b), (1, .ref (adc 0)), (2, .ref (adm 0)), (3, .ref ao)]) C.1 C.2.1 dL_law_2382 hl1 (k := 4) rfl (by rw [show Int32.ofInt 6 = nI 6 by decide, nI_add]) (by decide) rfl (fun ls2 hl2 => ?_)
    refine lv_goto (tgt := 23) C.1 C.2.1 dL_law_2385 (by decide) ?_
    exact ih (i + 6) hc1 hm1 x1 (cl + 1) (sl + 6) hR1 (by omega) (by omega) (by omega) (by omega) H1 locs1 ls2 hP1 hD1 hS1 (lv_sub hl2 [1, 2, 3, 4, 0] rfl)
end LWM
