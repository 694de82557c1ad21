def irm (x y : Int32) : Int32 := x - x / y * y
def iush (x y : Int32) : Int32 := (x.toUInt32 >>> (y.toUInt32 &&& Int32.toUInt32 31)).toInt32
section JQ
variable {sk : SK} {own : String} {cc : ByteArray} {nL : Nat} {ret : Option FieldType} {d : Nat} {v0 : Option Value} {h0 : HS} {pc : Nat} {L : List (Option Value)} {st : List Value} {h : HS}

theorem j_iconst {n : Int} {v : Int32} (hd : decode cc pc = .ok (.iconst n, 1)) (hv : Int32.ofInt n = v) (k : Jx sk own cc nL ret d v0 h0 (pc + 1) L (.int v :: st) h) : Jx sk own cc nL ret d v0 h0 (pc) L (st) h :=
  fun p l e s m args below meth c D ca ad A H locs ls Z R hRf hRl C hK hP hD hS hl hR => lv_iconst C.1 C.2.1 hd hv (k p l e s m args below meth c D ca ad A H locs ls Z R hRf hRl C hK hP hD hS hl hR)
theorem j_bipush {n : Int} {v : Int32} (hd : decode cc pc = .ok (.bipush n, 2)) (hv : (Int8.ofInt n).toInt32 = v) (k : Jx sk own cc nL ret d v0 h0 (pc + 2) L (.int v :: st) h) : Jx sk own cc nL ret d v0 h0 (pc) L (st) h :=
  fun p l e s m args below meth c D ca ad A H locs ls Z R hRf hRl C hK hP hD hS hl hR => lv_bipush C.1 C.2.1 hd hv (k p l e s m args below meth c D ca ad A H locs ls Z R hRf hRl C hK hP hD hS hl hR)
theorem j_sipush {n : Int} {v : Int32} (hd : decode cc pc = .ok (.sipush n, 3)) (hv : (Int16.ofInt n).toInt32 = v) (k : Jx sk own cc nL ret d v0 h0 (pc + 3) L (.int v :: st) h) : Jx sk own cc nL ret d v0 h0 (pc) L (st) h :=
  fun p l e s m args below meth c D ca ad A H locs ls Z R hRf hRl C hK hP hD hS hl hR => lv_sipush C.1 C.2.1 hd hv (k p l e s m args below meth c D ca ad A H locs ls Z R hRf hRl C hK hP hD hS hl hR)
theorem j_lconst {n : Fin 2} {v : Int64} (hd : decode cc pc = .ok (.lconst n, 1)) (hv : Int64.ofNat (n : Nat) = v) (k : Jx sk own cc nL ret d v0 h0 (pc + 1) L (.long v :: st) h) : Jx sk own cc nL ret d v0 h0 (pc) L (st) h :=
  fun p l e s m args below meth c D ca ad A H locs ls Z R hRf hRl C hK hP hD hS hl hR => lv_lconst C.1 C.2.1 hd hv (k p l e s m args below meth c D ca ad A H locs ls Z R hRf hRl C hK hP hD hS hl hR)
theorem j_ldc {index : Nat} {v : Int32} (hd : decode cc pc = .ok (.ldc index, 2)) (hw : Cond.constant own index v ∈ GW) (k : Jx sk own cc nL ret d v0 h0 (pc + 2) L (.int v :: st) h) : Jx sk own cc nL ret d v0 h0 (pc) L (st) h :=
  fun p l e s m args below meth c D ca ad A H locs ls Z R hRf hRl C hK hP hD hS hl hR => lv_ldc C.1 C.2.1 C.2.2.2.1 (C.2.2.2.2 _ hw) hd (k p l e s m args below meth c D ca ad A H locs ls Z R hRf hRl C hK hP hD hS hl hR)
theorem j_ldcw {index : Nat} {v : Int32} (hd : decode cc pc = .ok (.ldc_w index, 3)) (hw : Cond.constant own index v ∈ GW) (k : Jx sk own cc nL ret d v0 h0 (pc + 3) L (.int v :: st) h) : Jx sk own cc nL ret d v0 h0 (pc) L (st) h :=
  fun p l e s m args below meth c D ca ad A H locs ls Z R hRf hRl C hK hP hD hS hl hR => lv_ldcw C.1 C.2.1 C.2.2.2.1 (C.2.2.2.2 _ hw) hd (k p l e s m args below meth c D ca ad A H locs ls Z R hRf hRl C hK hP hD hS hl hR)
theorem j_ldc2 {index : Nat} {v : Int64} (hd : decode cc pc = .ok (.ldc2_w index, 3)) (hw : Cond.constantLong own index v ∈ GW) (k : Jx sk own cc nL ret d v0 h0 (pc + 3) L (.long v :: st) h) : Jx sk own cc nL ret d v0 h0 (pc) L (st) h :=
  fun p l e s m args below meth c D ca ad A H locs ls Z R hRf hRl C hK hP hD hS hl hR => lv_ldc2 C.1 C.2.1 C.2.2.2.1 (C.2.2.2.2 _ hw) hd (k p l e s m args below meth c D ca ad A H locs ls Z R hRf hRl C hK hP hD hS hl hR)
theorem j_iload_n {q : Fin 4} {x : Int32} (hd : decode cc pc = .ok (.iload_n q, 1)) (hL : L[(q : Nat)]? = some (some (.int x))) (k : Jx sk own cc nL ret d v0 h0 (pc + 1) L (.int x :: st) h) : Jx sk own cc nL ret d v0 h0 (pc) L (st) h :=
  fun p l e s m args below meth c D ca ad A H locs ls Z R hRf hRl C hK hP hD hS hl hR => lv_iload_n C.1 C.2.1 hd rfl (lvL_get hl hL) (k p l e s m args below meth c D ca ad A H locs ls Z R hRf hRl C hK hP hD hS hl hR)
theorem j_iload {i : Nat} {x : Int32} (hd : decode cc pc = .ok (.iload i, 2)) (hL : L[i]? = some (some (.int x))) (k : Jx sk own cc nL ret d v0 h0 (pc + 2) L (.int x :: st) h) : Jx sk own cc nL ret d v0 h0 (pc) L (st) h :=
  fun p l e s m args below meth c D ca ad A H locs ls Z R hRf hRl C hK hP hD hS hl hR => lv_iload C.1 C.2.1 hd (lvL_get hl hL) (k p l e s m args below meth c D ca ad A H locs ls Z R hRf hRl C hK hP hD hS hl hR)
theorem j_lload_n {q : Fin 4} {x : Int64} (hd : decode cc pc = .ok (.lload_n q, 1)) (hL : L[(q : Nat)]? = some (some (.long x))) (k : Jx sk own cc nL ret d v0 h0 (pc + 1) L (.long x :: st) h) : Jx sk own cc nL ret d v0 h0 (pc) L (st) h :=
  fun p l e s m args below meth c D ca ad A H locs ls Z R hRf hRl C hK hP hD hS hl hR => lv_lload_n C.1 C.2.1 hd rfl (lvL_get hl hL) (k p l e s m args below meth c D ca ad A H locs ls Z R hRf hRl C hK hP hD hS hl hR)
theorem j_lload {i : Nat} {x : Int64} (hd : decode cc pc = .ok (.lload i, 2)) (hL : L[i]? = some (some (.long x))) (k : Jx sk own cc nL ret d v0 h0 (pc + 2) L (.long x :: st) h) : Jx sk own cc nL ret d v0 h0 (pc) L (st) h :=
  fun p l e s m args below meth c D ca ad A H locs ls Z R hRf hRl C hK hP hD hS hl hR => lv_lload C.1 C.2.1 hd (lvL_get hl hL) (k p l e s m args below meth c D ca ad A H locs ls Z R hRf hRl C hK hP hD hS hl hR)
theorem j_aload_n {q : Fin 4} {x : Nat} (hd : decode cc pc = .ok (.aload_n q, 1)) (hL : L[(q : Nat)]? = some (some (.ref x))) (k : Jx sk own cc nL ret d v0 h0 (pc + 1) L (.ref x :: st) h) : Jx sk own cc nL ret d v0 h0 (pc) L (st) h :=
  fun p l e s m args below meth c D ca ad A H locs ls Z R hRf hRl C hK hP hD hS hl hR => lv_aload_n C.1 C.2.1 hd rfl (lvL_get hl hL) (k p l e s m args below meth c D ca ad A H locs ls Z R hRf hRl C hK hP hD hS hl hR)
theorem j_aload {i : Nat} {x : Nat} (hd : decode cc pc = .ok (.aload i, 2)) (hL : L[i]? = some (some (.ref x))) (k : Jx sk own cc nL ret d v0 h0 (pc + 2) L (.ref x :: st) h) : Jx sk own cc nL ret d v0 h0 (pc) L (st) h :=
  fun p l e s m args below meth c D ca ad A H locs ls Z R hRf hRl C hK hP hD hS hl hR => lv_aload C.1 C.2.1 hd (lvL_get hl hL) (k p l e s m args below meth c D ca ad A H locs ls Z R hRf hRl C hK hP hD hS hl hR)
theorem j_istore_n {q : Fin 4} {x : Int32} {L' : List (Option Value)} (hd : decode cc pc = .ok (.istore_n q, 1)) (hn : (q : Nat) < nL) (hL : st1 L (q : Nat) (.int x) = L') (k : Jx sk own cc nL ret d v0 h0 (pc + 1) L' (st) h) : Jx sk own cc nL ret d v0 h0 (pc) L (.int x :: st) h :=
  fun p l e s m args below meth c D ca ad A H locs ls Z R hRf hRl C hK hP hD hS hl hR => lv_istore_n C.1 C.2.1 hd rfl hl hn rfl (fun ls' hl' => k p l e s m args below meth c D ca ad A H locs ls' Z R hRf hRl C hK hP hD hS (hL ▸ st1_has hl') hR)
theorem j_istore {i : Nat} {x : Int32} {L' : List (Option Value)} (hd : decode cc pc = .ok (.istore i, 2)) (hn : i < nL) (hL : st1 L i (.int x) = L') (k : Jx sk own cc nL ret d v0 h0 (pc + 2) L' (st) h) : Jx sk own cc nL ret d v0 h0 (pc) L (.int x :: st) h :=
  fun p l e s m args below meth c D ca ad A H locs ls Z R hRf hRl C hK hP hD hS hl hR => lv_istore C.1 C.2.1 hd hl hn rfl (fun ls' hl' => k p l e s m args below meth c D ca ad A H locs ls' Z R hRf hRl C hK hP hD hS (hL ▸ st1_has hl') hR)
theorem j_lstore_n {q : Fin 4} {x : Int64} {L' : List (Option Value)} (hd : decode cc pc = .ok (.lstore_n q, 1)) (hn : (q : Nat) + 1 < nL) (hL : st2 L (q : Nat) (.long x) = L') (k : Jx sk own cc nL ret d v0 h0 (pc + 1) L' (st) h) : Jx sk own cc nL ret d v0 h0 (pc) L (.long x :: st) h :=
  fun p l e s m args below meth c D ca ad A H locs ls Z R hRf hRl C hK hP hD hS hl hR => lv_lstore_n C.1 C.2.1 hd rfl hl hn rfl (fun ls' hl' => k p l e s m args below meth c D ca ad A H locs ls' Z R hRf hRl C hK hP hD hS (hL ▸ st2_has hl') hR)
theorem j_lstore {i : Nat} {x : Int64} {L' : List (Option Value)} (hd : decode cc pc = .ok (.lstore i, 2)) (hn : i + 1 < nL) (hL : st2 L i (.long x) = L') (k : Jx sk own cc nL ret d v0 h0 (pc + 2) L' (st) h) : Jx sk own cc nL ret d v0 h0 (pc) L (.long x :: st) h :=
  fun p l e s m args below meth c D ca ad A H locs ls Z R hRf hRl C hK hP hD hS hl hR => lv_lstore C.1 C.2.1 hd hl hn rfl (fun ls' hl' => k p l e s m args below meth c D ca ad A H locs ls' Z R hRf hRl C hK hP hD hS (hL ▸ st2_has hl') hR)
theorem j_astore_n {q : Fin 4} {x : Nat} {L' : List (Option Value)} (hd : decode cc pc = .ok (.astore_n q, 1)) (hn : (q : Nat) < nL) (hL : st1 L (q : Nat) (.ref x) = L') (k : Jx sk own cc nL ret d v0 h0 (pc + 1) L' (st) h) : Jx sk own cc nL ret d v0 h0 (pc) L (.ref x :: st) h :=
  fun p l e s m args below meth c D ca ad A H locs ls Z R hRf hRl C hK hP hD hS hl hR => lv_astore_n C.1 C.2.1 hd rfl hl hn rfl (fun ls' hl' => k p l e s m args below meth c D ca ad A H locs ls' Z R hRf hRl C hK hP hD hS (hL ▸ st1_has hl') hR)
theorem j_astore {i : Nat} {x : Nat} {L' : List (Option Value)} (hd : decode cc pc = .ok (.astore i, 2)) (hn : i < nL) (hL : st1 L i (.ref x) = L') (k : Jx sk own cc nL ret d v0 h0 (pc + 2) L' (st) h) : Jx sk own cc nL ret d v0 h0 (pc) L (.ref x :: st) h :=
  fun p l e s m args below meth c D ca ad A H locs ls Z R hRf hRl C hK hP hD hS hl hR => lv_astore C.1 C.2.1 hd hl hn rfl (fun ls' hl' => k p l e s m args below meth c D ca ad A H locs ls' Z R hRf hRl C hK hP hD hS (hL ▸ st1_has hl') hR)
theorem j_iinc {i : Nat} {n : Int} {x : Int32} {L' : List (Option Value)} (hd : decode cc pc = .ok (.iinc i n, 3)) (hx : L[i]? = some (some (.int x))) {w : Int32} (hw : Int32.ofInt n = w) (hn : i < nL) (v : Int32) (hv : v = x + w) (hL : st1 L i (.int v) = L') (k : Jx sk own cc nL ret d v0 h0 (pc + 3) L' st h) : Jx sk own cc nL ret d v0 h0 pc L st h := by
  intro p l e s m args below meth c D ca ad A H locs ls Z R hRf hRl C hK hP hD hS hl hR
  obtain ⟨j, hj⟩ := List.getElem?_of_mem (lvL_mem.mpr ⟨i, Value.int x, hx, rfl⟩ : ((0 + i, tv ad (.int x)) : Nat × Value) ∈ lvL ad 0 L)
  rw [Nat.zero_add] at hj
  exact lv_iinc C.1 C.2.1 hd hl (k := j) hj (by rw [hw]; exact hv.symm) hn rfl (fun ls' hl' => k p l e s m args below meth c D ca ad A H locs ls' Z R hRf hRl C hK hP hD hS (hL ▸ st1_has hl') hR)
theorem j_iadd {x y : Int32} (hd : decode cc pc = .ok (.iadd, 1)) (k : Jx sk own cc nL ret d v0 h0 (pc + 1) L (.int (x + y) :: st) h) : Jx sk own cc nL ret d v0 h0 (pc) L (.int y :: .int x :: st) h :=
  fun p l e s m args below meth c D ca ad A H locs ls Z R hRf hRl C hK hP hD hS hl hR => lv_iadd C.1 C.2.1 hd (k p l e s m args below meth c D ca ad A H locs ls Z R hRf hRl C hK hP hD hS hl hR)
theorem j_isub {x y : Int32} (hd : decode cc pc = .ok (.isub, 1)) (k : Jx sk own cc nL ret d v0 h0 (pc + 1) L (.int (x - y) :: st) h) : Jx sk own cc nL ret d v0 h0 (pc) L (.int y :: .int x :: st) h :=
  fun p l e s m args below meth c D ca ad A H locs ls Z R hRf hRl C hK hP hD hS hl hR => lv_isub C.1 C.2.1 hd (k p l e s m args below meth c D ca ad A H locs ls Z R hRf hRl C hK hP hD hS hl hR)
theorem j_imul {x y : Int32} (hd : decode cc pc = .ok (.imul, 1)) (k : Jx sk own cc nL ret d v0 h0 (pc + 1) L (.int (x * y) :: st) h) : Jx sk own cc nL ret d v0 h0 (pc) L (.int y :: .int x :: st) h :=
  fun p l e s m args below meth c D ca ad A H locs ls Z R hRf hRl C hK hP hD hS hl hR => lv_imul C.1 C.2.1 hd (k p l e s m args below meth c D ca ad A H locs ls Z R hRf hRl C hK hP hD hS hl hR)
theorem j_iand {x y : Int32} (hd : decode cc pc = .ok (.iand, 1)) (k : Jx sk own cc nL ret d v0 h0 (pc + 1) L (.int (x &&& y) :: st) h) : Jx sk own cc nL ret d v0 h0 (pc) L (.int y :: .int x :: st) h :=
  fun p l e s m args below meth c D ca ad A H locs ls Z R hRf hRl C hK hP hD hS hl hR => lv_iand C.1 C.2.1 hd (k p l e s m args below meth c D ca ad A H locs ls Z R hRf hRl C hK hP hD hS hl hR)
theorem j_ior {x y : Int32} (hd : decode cc pc = .ok (.ior, 1)) (k : Jx sk own cc nL ret d v0 h0 (pc + 1) L (.int (x ||| y) :: st) h) : Jx sk own cc nL ret d v0 h0 (pc) L (.int y :: .int x :: st) h :=
  fun p l e s m args below meth c D ca ad A H locs ls Z R hRf hRl C hK hP hD hS hl hR => lv_ior C.1 C.2.1 hd (k p l e s m args below meth c D ca ad A H locs ls Z R hRf hRl C hK hP hD hS hl hR)
theorem j_ixor {x y : Int32} (hd : decode cc pc = .ok (.ixor, 1)) (k : Jx sk own cc nL ret d v0 h0 (pc + 1) L (.int (x ^^^ y) :: st) h) : Jx sk own cc nL ret d v0 h0 (pc) L (.int y :: .int x :: st) h :=
  fun p l e s m args below meth c D ca ad A H locs ls Z R hRf hRl C hK hP hD hS hl hR => lv_ixor C.1 C.2.1 hd (k p l e s m args below meth c D ca ad A H locs ls Z R hRf hRl C hK hP hD hS hl hR)
theorem j_ishl {x y : Int32} (hd : decode cc pc = .ok (.ishl, 1)) (k : Jx sk own cc nL ret d v0 h0 (pc + 1) L (.int (x <<< (y &&& 31)) :: st) h) : Jx sk own cc nL ret d v0 h0 (pc) L (.int y :: .int x :: st) h :=
  fun p l e s m args below meth c D ca ad A H locs ls Z R hRf hRl C hK hP hD hS hl hR => lv_ishl C.1 C.2.1 hd (k p l e s m args below meth c D ca ad A H locs ls Z R hRf hRl C hK hP hD hS hl hR)
theorem j_ishr {x y : Int32} (hd : decode cc pc = .ok (.ishr, 1)) (k : Jx sk own cc nL ret d v0 h0 (pc + 1) L (.int (x >>> (y &&& 31)) :: st) h) : Jx sk own cc nL ret d v0 h0 (pc) L (.int y :: .int x :: st) h :=
  fun p l e s m args below meth c D ca ad A H locs ls Z R hRf hRl C hK hP hD hS hl hR => lv_ishr C.1 C.2.1 hd (k p l e s m args below meth c D ca ad A H locs ls Z R hRf hRl C hK hP hD hS hl hR)
theorem j_iushr {x y : Int32} (hd : decode cc pc = .ok (.iushr, 1)) (k : Jx sk own cc nL ret d v0 h0 (pc + 1) L (.int (iush x y) :: st) h) : Jx sk own cc nL ret d v0 h0 (pc) L (.int y :: .int x :: st) h :=
  fun p l e s m args below meth c D ca ad A H locs ls Z R hRf hRl C hK hP hD hS hl hR => lv_iushr C.1 C.2.1 hd rfl (k p l e s m args below meth c D ca ad A H locs ls Z R hRf hRl C hK hP hD hS hl hR)
theorem j_idiv {x y : Int32} (hd : decode cc pc = .ok (.idiv, 1)) (hne : ¬ y = 0) (k : Jx sk own cc nL ret d v0 h0 (pc + 1) L (.int (x / y) :: st) h) : Jx sk own cc nL ret d v0 h0 (pc) L (.int y :: .int x :: st) h :=
  fun p l e s m args below meth c D ca ad A H locs ls Z R hRf hRl C hK hP hD hS hl hR => lv_idiv C.1 C.2.1 hd hne (k p l e s m args below meth c D ca ad A H locs ls Z R hRf hRl C hK hP hD hS hl hR)
theorem j_irem {x y : Int32} (hd : decode cc pc = .ok (.irem, 1)) (hne : ¬ y = 0) (k : Jx sk own cc nL ret d v0 h0 (pc + 1) L (.int (irm x y) :: st) h) : Jx sk own cc nL ret d v0 h0 (pc) L (.int y :: .int x :: st) h :=
  fun p l e s m args below meth c D ca ad A H locs ls Z R hRf hRl C hK hP hD hS hl hR => lv_irem C.1 C.2.1 hd hne (k p l e s m args below meth c D ca ad A H locs ls Z R hRf hRl C hK hP hD hS hl hR)
theorem j_ineg {x : Int32} (hd : decode cc pc = .ok (.ineg, 1)) (k : Jx sk own cc nL ret d v0 h0 (pc + 1) L (.int (-x) :: st) h) : Jx sk own cc nL ret d v0 h0 (pc) L (.int x :: st) h :=
  fun p l e s m args below meth c D ca ad A H locs ls Z R hRf hRl C hK hP hD hS hl hR => lv_ineg C.1 C.2.1 hd (k p l e s m args below meth c D ca ad A H locs ls Z R hRf hRl C hK hP hD hS hl hR)
theorem j_ladd {x y : Int64} (hd : decode cc pc = .ok (.ladd, 1)) (k : Jx sk own cc nL ret d v0 h0 (pc + 1) L (.long (x + y) :: st) h) : Jx sk own cc nL ret d v0 h0 (pc) L (.long y :: .long x :: st) h :=
  fun p l e s m args below meth c D ca ad A H locs ls Z R hRf hRl C hK hP hD hS hl hR => lv_ladd C.1 C.2.1 hd (k p l e s m args below meth c D ca ad A H locs ls Z R hRf hRl C hK hP hD hS hl hR)
theorem j_lsub {x y : Int64} (hd : decode cc pc = .ok (.lsub, 1)) (k : Jx sk own cc nL ret d v0 h0 (pc + 1) L (.long (x - y) :: st) h) : Jx sk own cc nL ret d v0 h0 (pc) L (.long y :: .long x :: st) h :=
  fun p l e s m args below meth c D ca ad A H locs ls Z R hRf hRl C hK hP hD hS hl hR => lv_lsub C.1 C.2.1 hd (k p l e s m args below meth c D ca ad A H locs ls Z R hRf hRl C hK hP hD hS hl hR)
theorem j_lmul {x y : Int64} (hd : decode cc pc = .ok (.lmul, 1)) (k : Jx sk own cc nL ret d v0 h0 (pc + 1) L (.long (x * y) :: st) h) : Jx sk own cc nL ret d v0 h0 (pc) L (.long y :: .long x :: st) h :=
  fun p l e s m args below meth c D ca ad A H locs ls Z R hRf hRl C hK hP hD hS hl hR => lv_lmul C.1 C.2.1 hd (k p l e s m args below meth c D ca ad A H locs ls Z R hRf hRl C hK hP hD hS hl hR)
theorem j_lxor {x y : Int64} (hd : decode cc pc = .ok (.lxor, 1)) (k : Jx sk own cc nL ret d v0 h0 (pc + 1) L (.long (x ^^^ y) :: st) h) : Jx sk own cc nL ret d v0 h0 (pc) L (.long y :: .long x :: st) h :=
  fun p l e s m args below meth c D ca ad A H locs ls Z R hRf hRl C hK hP hD hS hl hR => lv_lxor C.1 C.2.1 hd (k p l e s m args below meth c D ca ad A H locs ls Z R hRf hRl C hK hP hD hS hl hR)
theorem j_ldiv {x y : Int64} (hd : decode cc pc = .ok (.ldiv, 1)) (hne : ¬ y = 0) (k : Jx sk own cc nL ret d v0 h0 (pc + 1) L (.long (x / y) :: st) h) : Jx sk own cc nL ret d v0 h0 (pc) L (.long y :: .long x :: st) h :=
  fun p l e s m args below meth c D ca ad A H locs ls Z R hRf hRl C hK hP hD hS hl hR => lv_ldiv C.1 C.2.1 hd hne (k p l e s m args below meth c D ca ad A H locs ls Z R hRf hRl C hK hP hD hS hl hR)
theorem j_lneg {x : Int64} (hd : decode cc pc = .ok (.lneg, 1)) (k : Jx sk own cc nL ret d v0 h0 (pc + 1) L (.long (-x) :: st) h) : Jx sk own cc nL ret d v0 h0 (pc) L (.long x :: st) h :=
  fun p l e s m args below meth c D ca ad A H locs ls Z R hRf hRl C hK hP hD hS hl hR => lv_lneg C.1 C.2.1 hd (k p l e s m args below meth c D ca ad A H locs ls Z R hRf hRl C hK hP hD hS hl hR)
theorem j_i2l {x : Int32} (hd : decode cc pc = .ok (.i2l, 1)) (k : Jx sk own cc nL ret d v0 h0 (pc + 1) L (.long x.toInt64 :: st) h) : Jx sk own cc nL ret d v0 h0 (pc) L (.int x :: st) h :=
  fun p l e s m args below meth c D ca ad A H locs ls Z R hRf hRl C hK hP hD hS hl hR => lv_i2l C.1 C.2.1 hd rfl (k p l e s m args below meth c D ca ad A H locs ls Z R hRf hRl C hK hP hD hS hl hR)
theorem j_l2i {x : Int64} (hd : decode cc pc = .ok (.l2i, 1)) (k : Jx sk own cc nL ret d v0 h0 (pc + 1) L (.int x.toInt32 :: st) h) : Jx sk own cc nL ret d v0 h0 (pc) L (.long x :: st) h :=
  fun p l e s m args below meth c D ca ad A H locs ls Z R hRf hRl C hK hP hD hS hl hR => lv_l2i C.1 C.2.1 hd rfl (k p l e s m args below meth c D ca ad A H locs ls Z R hRf hRl C hK hP hD hS hl hR)
theorem j_i2b {x : Int32} (hd : decode cc pc = .ok (.i2b, 1)) (k : Jx sk own cc nL ret d v0 h0 (pc + 1) L (.int x.toInt8.toInt32 :: st) h) : Jx sk own cc nL ret d v0 h0 (pc) L (.int x :: st) h :=
  fun p l e s m args below meth c D ca ad A H locs ls Z R hRf hRl C hK hP hD hS hl hR => lv_i2b C.1 C.2.1 hd rfl (k p l e s m args below meth c D ca ad A H locs ls Z R hRf hRl C hK hP hD hS hl hR)
theorem j_i2s {x : Int32} (hd : decode cc pc = .ok (.i2s, 1)) (k : Jx sk own cc nL ret d v0 h0 (pc + 1) L (.int x.toInt16.toInt32 :: st) h) : Jx sk own cc nL ret d v0 h0 (pc) L (.int x :: st) h :=
  fun p l e s m args below meth c D ca ad A H locs ls Z R hRf hRl C hK hP hD hS hl hR => lv_i2s C.1 C.2.1 hd rfl (k p l e s m args below meth c D ca ad A H locs ls Z R hRf hRl C hK hP hD hS hl hR)
theorem j_lcmp {x y : Int64} (hd : decode cc pc = .ok (.lcmp, 1)) (k : Jx sk own cc nL ret d v0 h0 (pc + 1) L (.int (lg_cmp x y) :: st) h) : Jx sk own cc nL ret d v0 h0 (pc) L (.long y :: .long x :: st) h :=
  fun p l e s m args below meth c D ca ad A H locs ls Z R hRf hRl C hK hP hD hS hl hR => W.lcmp C.1 C.2.1 hd (k p l e s m args below meth c D ca ad A H locs ls Z R hRf hRl C hK hP hD hS hl hR)
theorem j_dup {x : Value} (hd : decode cc pc = .ok (.dup, 1)) (hx : x.category = 1) (k : Jx sk own cc nL ret d v0 h0 (pc + 1) L (x :: x :: st) h) : Jx sk own cc nL ret d v0 h0 (pc) L (x :: st) h :=
  fun p l e s m args below meth c D ca ad A H locs ls Z R hRf hRl C hK hP hD hS hl hR => lv_dup C.1 C.2.1 hd ((tv_cat ad x).trans hx) (k p l e s m args below meth c D ca ad A H locs ls Z R hRf hRl C hK hP hD hS hl hR)
theorem j_pop {x : Value} (hd : decode cc pc = .ok (.pop, 1)) (hx : x.category = 1) (k : Jx sk own cc nL ret d v0 h0 (pc + 1) L (st) h) : Jx sk own cc nL ret d v0 h0 (pc) L (x :: st) h :=
  fun p l e s m args below meth c D ca ad A H locs ls Z R hRf hRl C hK hP hD hS hl hR => lv_pop C.1 C.2.1 hd ((tv_cat ad x).trans hx) (k p l e s m args below meth c D ca ad A H locs ls Z R hRf hRl C hK hP hD hS hl hR)
theorem j_dup_x1 {x y : Value} (hd : decode cc pc = .ok (.dup_x1, 1)) (hx : x.category = 1) (hy : y.category = 1) (k : Jx sk own cc nL ret d v0 h0 (pc + 1) L (x :: y :: x :: st) h) : Jx sk own cc nL ret d v0 h0 (pc) L (x :: y :: st) h :=
  fun p l e s m args below meth c D ca ad A H locs ls Z R hRf hRl C hK hP hD hS hl hR => lv_dup_x1 C.1 C.2.1 hd ((tv_cat ad x).trans hx) ((tv_cat ad y).trans hy) (k p l e s m args below meth c D ca ad A H locs ls Z R hRf hRl C hK hP hD hS hl hR)
theorem j_dup2 {x y : Value} (hd : decode cc pc = .ok (.dup2, 1)) (hx : x.category = 1) (hy : y.category = 1) (k : Jx sk own cc nL ret d v0 h0 (pc + 1) L (x :: y :: x :: y :: st) h) : Jx sk own cc nL ret d v0 h0 (pc) L (x :: y :: st) h :=
  fun p l e s m args below meth c D ca ad A H locs ls Z R hRf hRl C hK hP hD hS hl hR => lv_dup2_11 C.1 C.2.1 hd ((tv_cat ad x).trans hx) ((tv_cat ad y).trans hy) (k p l e s m args below meth c D ca ad A H locs ls Z R hRf hRl C hK hP hD hS hl hR)
theorem j_if_eq {x : Int32} {off : Int} {tgt : Nat} (hd : decode cc pc = .ok (.ifCond .eq off, 3)) (ht : (pc : Int) + off = (tgt : Int)) (kt : x = 0 → Jx sk own cc nL ret d v0 h0 (tgt) L (st) h) (kf : ¬ (x = 0) → Jx sk own cc nL ret d v0 h0 (pc + 3) L (st) h) : Jx sk own cc nL ret d v0 h0 (pc) L (.int x :: st) h :=
  fun p l e s m args below meth c D ca ad A H locs ls Z R hRf hRl C hK hP hD hS hl hR => lv_if_eq C.1 C.2.1 hd ht (fun q => kt q p l e s m args below meth c D ca ad A H locs ls Z R hRf hRl C hK hP hD hS hl hR) (fun q => kf q p l e s m args below meth c D ca ad A H locs ls Z R hRf hRl C hK hP hD hS hl hR)
theorem j_icmp_eq {x y : Int32} {off : Int} {tgt : Nat} (hd : decode cc pc = .ok (.if_icmp .eq off, 3)) (ht : (pc : Int) + off = (tgt : Int)) (kt : x = y → Jx sk own cc nL ret d v0 h0 (tgt) L (st) h) (kf : ¬ (x = y) → Jx sk own cc nL ret d v0 h0 (pc + 3) L (st) h) : Jx sk own cc nL ret d v0 h0 (pc) L (.int y :: .int x :: st) h :=
  fun p l e s m args below meth c D ca ad A H locs ls Z R hRf hRl C hK hP hD hS hl hR => lv_icmp_eq C.1 C.2.1 hd ht (fun q => kt q p l e s m args below meth c D ca ad A H locs ls Z R hRf hRl C hK hP hD hS hl hR) (fun q => kf q p l e s m args below meth c D ca ad A H locs ls Z R hRf hRl C hK hP hD hS hl hR)
theorem j_if_ne {x : Int32} {off : Int} {tgt : Nat} (hd : decode cc pc = .ok (.ifCond .ne off, 3)) (ht : (pc : Int) + off = (tgt : Int)) (kt : ¬ x = 0 → Jx sk own cc nL ret d v0 h0 (tgt) L (st) h) (kf : x = 0 → Jx sk own cc nL ret d v0 h0 (pc + 3) L (st) h) : Jx sk own cc nL ret d v0 h0 (pc) L (.int x :: st) h :=
  fun p l e s m args below meth c D ca ad A H locs ls Z R hRf hRl C hK hP hD hS hl hR => lv_if_ne C.1 C.2.1 hd ht (fun q => kt q p l e s m args below meth c D ca ad A H locs ls Z R hRf hRl C hK hP hD hS hl hR) (fun q => kf q p l e s m args below meth c D ca ad A H locs ls Z R hRf hRl C hK hP hD hS hl hR)
theorem j_icmp_ne {x y : Int32} {off : Int} {tgt : Nat} (hd : decode cc pc = .ok (.if_icmp .ne off, 3)) (ht : (pc : Int) + off = (tgt : Int)) (kt : ¬ x = y → Jx sk own cc nL ret d v0 h0 (tgt) L (st) h) (kf : x = y → Jx sk own cc nL ret d v0 h0 (pc + 3) L (st) h) : Jx sk own cc nL ret d v0 h0 (pc) L (.int y :: .int x :: st) h :=
  fun p l e s m args below meth c D ca ad A H locs ls Z R hRf hRl C hK hP hD hS hl hR => lv_icmp_ne C.1 C.2.1 hd ht (fun q => kt q p l e s m args below meth c D ca ad A H locs ls Z R hRf hRl C hK hP hD hS hl hR) (fun q => kf q p l e s m args below meth c D ca ad A H locs ls Z R hRf hRl C hK hP hD hS hl hR)
theorem j_if_lt {x : Int32} {off : Int} {tgt : Nat} (hd : decode cc pc = .ok (.ifCond .lt off, 3)) (ht : (pc : Int) + off = (tgt : Int)) (kt : x < 0 → Jx sk own cc nL ret d v0 h0 (tgt) L (st) h) (kf : ¬ (x < 0) → Jx sk own cc nL ret d v0 h0 (pc + 3) L (st) h) : Jx sk own cc nL ret d v0 h0 (pc) L (.int x :: st) h :=
  fun p l e s m args below meth c D ca ad A H locs ls Z R hRf hRl C hK hP hD hS hl hR => lv_if_lt C.1 C.2.1 hd ht (fun q => kt q p l e s m args below meth c D ca ad A H locs ls Z R hRf hRl C hK hP hD hS hl hR) (fun q => kf q p l e s m args below meth c D ca ad A H locs ls Z R hRf hRl C hK hP hD hS hl hR)
theorem j_icmp_lt {x y : Int32} {off : Int} {tgt : Nat} (hd : decode cc pc = .ok (.if_icmp .lt off, 3)) (ht : (pc : Int) + off = (tgt : Int)) (kt : x < y → Jx sk own cc nL ret d v0 h0 (tgt) L (st) h) (kf : ¬ (x < y) → Jx sk own cc nL ret d v0 h0 (pc + 3) L (st) h) : Jx sk own cc nL ret d v0 h0 (pc) L (.int y :: .int x :: st) h :=
  fun p l e s m args below meth c D ca ad A H locs ls Z R hRf hRl C hK hP hD hS hl hR => lv_icmp_lt C.1 C.2.1 hd ht (fun q => kt q p l e s m args below meth c D ca ad A H locs ls Z R hRf hRl C hK hP hD hS hl hR) (fun q => kf q p l e s m args below meth c D ca ad A H locs ls Z R hRf hRl C hK hP hD hS hl hR)
theorem j_if_ge {x : Int32} {off : Int} {tgt : Nat} (hd : decode cc pc = .ok (.ifCond .ge off, 3)) (ht : (pc : Int) + off = (tgt : Int)) (kt : 0 ≤ x → Jx sk own cc nL ret d v0 h0 (tgt) L (st) h) (kf : ¬ (0 ≤ x) → Jx sk own cc nL ret d v0 h0 (pc + 3) L (st) h) : Jx sk own cc nL ret d v0 h0 (pc) L (.int x :: st) h :=
  fun p l e s m args below meth c D ca ad A H locs ls Z R hRf hRl C hK hP hD hS hl hR => lv_if_ge C.1 C.2.1 hd ht (fun q => kt q p l e s m args below meth c D ca ad A H locs ls Z R hRf hRl C hK hP hD hS hl hR) (fun q => kf q p l e s m args below meth c D ca ad A H locs ls Z R hRf hRl C hK hP hD hS hl hR)
theorem j_icmp_ge {x y : Int32} {off : Int} {tgt : Nat} (hd : decode cc pc = .ok (.if_icmp .ge off, 3)) (ht : (pc : Int) + off = (tgt : Int)) (kt : y ≤ x → Jx sk own cc nL ret d v0 h0 (tgt) L (st) h) (kf : ¬ (y ≤ x) → Jx sk own cc nL ret d v0 h0 (pc + 3) L (st) h) : Jx sk own cc nL ret d v0 h0 (pc) L (.int y :: .int x :: st) h :=
  fun p l e s m args below meth c D ca ad A H locs ls Z R hRf hRl C hK hP hD hS hl hR => lv_icmp_ge C.1 C.2.1 hd ht (fun q => kt q p l e s m args below meth c D ca ad A H locs ls Z R hRf hRl C hK hP hD hS hl hR) (fun q => kf q p l e s m args below meth c D ca ad A H locs ls Z R hRf hRl C hK hP hD hS hl hR)
theorem j_if_gt {x : Int32} {off : Int} {tgt : Nat} (hd : decode cc pc = .ok (.ifCond .gt off, 3)) (ht : (pc : Int) + off = (tgt : Int)) (kt : 0 < x → Jx sk own cc nL ret d v0 h0 (tgt) L (st) h) (kf : ¬ (0 < x) → Jx sk own cc nL ret d v0 h0 (pc + 3) L (st) h) : Jx sk own cc nL ret d v0 h0 (pc) L (.int x :: st) h :=
  fun p l e s m args below meth c D ca ad A H locs ls Z R hRf hRl C hK hP hD hS hl hR => lv_if_gt C.1 C.2.1 hd ht (fun q => kt q p l e s m args below meth c D ca ad A H locs ls Z R hRf hRl C hK hP hD hS hl hR) (fun q => kf q p l e s m args below meth c D ca ad A H locs ls Z R hRf hRl C hK hP hD hS hl hR)
theorem j_icmp_gt {x y : Int32} {off : Int} {tgt : Nat} (hd : decode cc pc = .ok (.if_icmp .gt off, 3)) (ht : (pc : Int) + off = (tgt : Int)) (kt : y < x → Jx sk own cc nL ret d v0 h0 (tgt) L (st) h) (kf : ¬ (y < x) → Jx sk own cc nL ret d v0 h0 (pc + 3) L (st) h) : Jx sk own cc nL ret d v0 h0 (pc) L (.int y :: .int x :: st) h :=
  fun p l e s m args below meth c D ca ad A H locs ls Z R hRf hRl C hK hP hD hS hl hR => lv_icmp_gt C.1 C.2.1 hd ht (fun q => kt q p l e s m args below meth c D ca ad A H locs ls Z R hRf hRl C hK hP hD hS hl hR) (fun q => kf q p l e s m args below meth c D ca ad A H locs ls Z R hRf hRl C hK hP hD hS hl hR)
theorem j_if_le {x : Int32} {off : Int} {tgt : Nat} (hd : decode cc pc = .ok (.ifCond .le off, 3)) (ht : (pc : Int) + off = (tgt : Int)) (kt : x ≤ 0 → Jx sk own cc nL ret d v0 h0 (tgt) L (st) h) (kf : ¬ (x ≤ 0) → Jx sk own cc nL ret d v0 h0 (pc + 3) L (st) h) : Jx sk own cc nL ret d v0 h0 (pc) L (.int x :: st) h :=
  fun p l e s m args below meth c D ca ad A H locs ls Z R hRf hRl C hK hP hD hS hl hR => lv_if_le C.1 C.2.1 hd ht (fun q => kt q p l e s m args below meth c D ca ad A H locs ls Z R hRf hRl C hK hP hD hS hl hR) (fun q => kf q p l e s m args below meth c D ca ad A H locs ls Z R hRf hRl C hK hP hD hS hl hR)
theorem j_icmp_le {x y : Int32} {off : Int} {tgt : Nat} (hd : decode cc pc = .ok (.if_icmp .le off, 3)) (ht : (pc : Int) + off = (tgt : Int)) (kt : x ≤ y → Jx sk own cc nL ret d v0 h0 (tgt) L (st) h) (kf : ¬ (x ≤ y) → Jx sk own cc nL ret d v0 h0 (pc + 3) L (st) h) : Jx sk own cc nL ret d v0 h0 (pc) L (.int y :: .int x :: st) h :=
  fun p l e s m args below meth c D ca ad A H locs ls Z R hRf hRl C hK hP hD hS hl hR => lv_icmp_le C.1 C.2.1 hd ht (fun q => kt q p l e s m args below meth c D ca ad A H locs ls Z R hRf hRl C hK hP hD hS hl hR) (fun q => kf q p l e s m args below meth c D ca ad A H locs ls Z R hRf hRl C hK hP hD hS hl hR)
theorem j_goto {off : Int} {tgt : Nat} (hd : decode cc pc = .ok (.goto off, 3)) (ht : (pc : Int) + off = (tgt : Int)) (k : Jx sk own cc nL ret d v0 h0 (tgt) L (st) h) : Jx sk own cc nL ret d v0 h0 (pc) L (st) h :=
  fun p l e s m args below meth c D ca ad A H locs ls Z R hRf hRl C hK hP hD hS hl hR => lv_goto C.1 C.2.1 hd ht (k p l e s m args below meth c D ca ad A H locs ls Z R hRf hRl C hK hP hD hS hl hR)
theorem j_tableOut {dflt lo hi : Int} {offs : Array Int} {len : Nat} {x : Int32} {tgt : Nat} (hd : decode cc pc = .ok (.tableswitch dflt lo hi offs, len)) (hx : x.toInt < lo ∨ hi < x.toInt) (ht : (pc : Int) + dflt = (tgt : Int)) (k : Jx sk own cc nL ret d v0 h0 (tgt) L (st) h) : Jx sk own cc nL ret d v0 h0 (pc) L (.int x :: st) h :=
  fun p l e s m args below meth c D ca ad A H locs ls Z R hRf hRl C hK hP hD hS hl hR => lv_tableOut C.1 C.2.1 hd hx ht (k p l e s m args below meth c D ca ad A H locs ls Z R hRf hRl C hK hP hD hS hl hR)
theorem j_tableIn {dflt lo hi off : Int} {offs : Array Int} {len : Nat} {x : Int32} {tgt : Nat} (hd : decode cc pc = .ok (.tableswitch dflt lo hi offs, len)) (h1 : ¬ x.toInt < lo) (h2 : ¬ hi < x.toInt) (ho : offs[(x.toInt - lo).toNat]? = some off) (ht : (pc : Int) + off = (tgt : Int)) (k : Jx sk own cc nL ret d v0 h0 (tgt) L (st) h) : Jx sk own cc nL ret d v0 h0 (pc) L (.int x :: st) h :=
  fun p l e s m args below meth c D ca ad A H locs ls Z R hRf hRl C hK hP hD hS hl hR => lv_tableIn C.1 C.2.1 hd h1 h2 ho ht (k p l e s m args below meth c D ca ad A H locs ls Z R hRf hRl C hK hP hD hS hl hR)
/-- the field k of the class ci, as the class own names it -/
def FLg (own : String) (index ci k : Nat) : Prop := ∃ (C : String) (T : u_T) (N : Nat), vwCl[ci]? = some (C, T, N) ∧ k < N ∧ (∀ w ∈ u_ws C T N, w ∈ GW) ∧ Cond.fieldLink own index (T k).1 (T k).2.1 (T k).2.2.1 ∈ GW
def FLp (own : String) (index ci k : Nat) (ty : FieldType) : Prop := ∃ (C : String) (T : u_T) (N : Nat) (t0 : Nat → FieldType), (vwCl[ci]? = some (C, T, N) ∧ k < N ∧ (∀ w ∈ u_ws C T N, w ∈ GW) ∧ Cond.fieldLink own index (T k).1 (T k).2.1 (T k).2.2.1 ∈ GW) ∧ (∀ k, k < N → parseFieldDescriptor (T k).2.2.1 = some (t0 k)) ∧ (∀ a, a < N → ∀ b, b < N → a ≠ b → (T a).2.1 ≠ (T b).2.1) ∧ (T k).2.2.2 = false ∧ parseFieldDescriptor (T k).2.2.1 = some ty
def fk (sk : SK) (a k : Nat) : Option (Nat × Nat) := match sk[a]? with
  | some (0, ci, fts) => (fts[k]?).map (fun t => (ci, t))
  | _ => none
theorem fk_of {sk : SK} {a k ci t : Nat} (hf : fk sk a k = some (ci, t)) : ∃ fts : List Nat, sk[a]? = some (0, ci, fts) ∧ fts[k]? = some t := by
  unfold fk at hf
  split at hf
  · rename_i cj fts hq
    cases ht : fts[k]? with
    | none => rw [ht] at hf; cases hf
    | some u =>
      rw [ht] at hf
      cases hf
      exact ⟨fts, hq, ht⟩
  · cases hf
def ak (sk : SK) (a : Nat) : Option (Nat × Nat) := match sk[a]? with
  | some (t + 1, n, _) => some (t + 1, n)
  | _ => none
theorem ak_of {sk : SK} {a t n : Nat} (hf : ak sk a = some (t, n)) : ∃ (u : Nat) (l : List Nat), t = u + 1 ∧ sk[a]? = some (t, n, l) := by
  unfold ak at hf
  split at hf
  · rename_i u m l hq
    cases hf
    exact ⟨u, l, rfl, hq⟩
  · cases hf
theorem fv_at {ad : Nat → Nat} {h : HS} {a k t : Nat} {fts : List Nat} (hf : fts[k]? = some t) : (fts.mapIdx (fun k t => fv ad h a k t))[k]? = some (fv ad h a k t) := by
  rw [List.getElem?_mapIdx, hf]
  rfl
theorem j_getT {a k t ci index : Nat} {v : Value} (hd : decode cc pc = .ok (.getfield index, 3)) (F : FLg own index ci k) (hf : fk sk a k = some (ci, t)) (hv : ∀ ad : Nat → Nat, fv ad h a k t = tv ad v) (q : Jx sk own cc nL ret d v0 h0 (pc + 3) L (v :: st) h) : Jx sk own cc nL ret d v0 h0 (pc) L (.ref a :: st) h := by
  intro p l e s m args below meth c D ca ad A H locs ls Z R hRf hRl C hK hP hD hS hl hR
  obtain ⟨C1, T, N, f1, f2, f3, f4⟩ := F
  obtain ⟨fts, g1, g2⟩ := fk_of hf
  exact va_get C.1 C.2.1 C.2.2.2.2 f3 C.2.2.2.1 hK.1 hP a (wld_get g1) f1 k f2 (C.2.2.2.2 _ f4) (fun _ z => z) (fv_at g2) hd (by rw [hv ad]; exact q p l e s m args below meth c D ca ad A H locs ls Z R hRf hRl C hK hP hD hS hl hR)
theorem j_getI {a k ci index : Nat} (hd : decode cc pc = .ok (.getfield index, 3)) (F : FLg own index ci k) (hf : fk sk a k = some (ci, 0)) (q : Jx sk own cc nL ret d v0 h0 (pc + 3) L (.int (gI h a k) :: st) h) : Jx sk own cc nL ret d v0 h0 (pc) L (.ref a :: st) h := j_getT (v := .int (gI h a k)) hd F hf (fun _ => rfl) q
theorem j_getL {a k ci index : Nat} (hd : decode cc pc = .ok (.getfield index, 3)) (F : FLg own index ci k) (hf : fk sk a k = some (ci, 1)) (q : Jx sk own cc nL ret d v0 h0 (pc + 3) L (.long (gL h a k) :: st) h) : Jx sk own cc nL ret d v0 h0 (pc) L (.ref a :: st) h := j_getT (v := .long (gL h a k)) hd F hf (fun _ => rfl) q
theorem j_getR {a k ci index b : Nat} (hd : decode cc pc = .ok (.getfield index, 3)) (F : FLg own index ci k) (hf : fk sk a k = some (ci, b + 10)) (q : Jx sk own cc nL ret d v0 h0 (pc + 3) L (.ref b :: st) h) : Jx sk own cc nL ret d v0 h0 (pc) L (.ref a :: st) h := j_getT (v := .ref b) hd F hf (fun _ => rfl) q
theorem j_getQ {a k ci index b : Nat} (hd : decode cc pc = .ok (.getfield index, 3)) (F : FLg own index ci k) (hf : fk sk a k = some (ci, 2)) (hb : gR h a k = some b) (q : Jx sk own cc nL ret d v0 h0 (pc + 3) L (.ref b :: st) h) : Jx sk own cc nL ret d v0 h0 (pc) L (.ref a :: st) h := j_getT (v := .ref b) hd F hf (fun ad => by show va_rf ((gR h a k).map ad) = _; rw [hb]; rfl) q

theorem mapIdx_set {α β : Type} (f g : Nat → α → β) (l : List α) (k : Nat) {x : α} (hx : l[k]? = some x) (ho : ∀ j y, j ≠ k → g j y = f j y) : (l.mapIdx f).set k (g k x) = l.mapIdx g := by
  apply List.ext_getElem?
  intro j
  have hl : k < (l.mapIdx f).length := by simpa using (List.getElem?_eq_some_iff.mp hx).1
  by_cases hj : j = k
  · subst hj
    rw [List.getElem?_set_self hl, List.getElem?_mapIdx, hx]
    rfl
  · rw [List.getElem?_set_ne (Ne.symm hj), List.getElem?_mapIdx, List.getElem?_mapIdx]
    cases l[j]? with
    | none => rfl
    | some y => simp only [Option.map_some]; rw [ho j y hj]
theorem j_putT {a k t ci index : Nat} {v : Value} {ty : FieldType} {h' : HS} (hd : decode cc pc = .ok (.putfield index, 3)) (F : FLp own index ci k ty) (hf : fk sk a k = some (ci, t)) (hv : ∀ ad : Nat → Nat, fv ad h' a k t = tv ad v) (hn : ∀ ad : Nat → Nat, narrow ty (tv ad v) = tv ad v ∧ fits ty (tv ad v) = true)
    (ho : ∀ b, b ≠ a → h'.1 b = h.1 b ∧ h'.2.1 b = h.2.1 b ∧ h'.2.2 b = h.2.2 b) (hm : ∀ (ad : Nat → Nat) j t, j ≠ k → fv ad h' a j t = fv ad h a j t) (q : Jx sk own cc nL ret d v0 h0 (pc + 3) L (st) h') : Jx sk own cc nL ret d v0 h0 (pc) L (v :: .ref a :: st) h := by
  intro p l e s m args below meth c D ca ad A H locs ls Z R hRf hRl C hK hP hD hS hl hR
  obtain ⟨C1, T, N, t0, ⟨f1, f2, f3, f4⟩, f5, f6, f7, f8⟩ := F
  obtain ⟨fts, g1, g2⟩ := fk_of hf
  refine va_put C.1 C.2.1 C.2.2.2.2 f3 t0 f5 f6 C.2.2.2.1 hK.1 hP hD hS a (wld_get g1) f1 k f2 (C.2.2.2.2 _ f4) (fun _ z => z) f7 f8 (hn ad).1 (hn ad).2 (by simpa using (List.getElem?_eq_some_iff.mp g2).1) hd (fun H1 locs1 hP1 hD1 hS1 => ?_)
  have e1 : (fts.mapIdx (fun k t => fv ad h a k t)).set k (tv ad v) = fts.mapIdx (fun k t => fv ad h' a k t) := by
    rw [← hv ad]
    exact mapIdx_set (fun k t => fv ad h a k t) (fun k t => fv ad h' a k t) fts k g2 (fun j y hj => hm ad j y hj)
  have e2 : (wld sk ca ad h).set a (ad a, .inr (ci, (fts.mapIdx (fun k t => fv ad h a k t)).set k (tv ad v))) = wld sk ca ad h' := by
    rw [e1]
    exact wld_set g1 ho
  rw [e2] at hP1
  exact q p l e s m args below meth c D ca ad A H1 locs1 ls Z R hRf hRl C hK hP1 (wld_D h' hD) hS1 hl hR
theorem j_putI {a k ci index : Nat} {x : Int32} (hd : decode cc pc = .ok (.putfield index, 3)) (F : FLp own index ci k .int) (hf : fk sk a k = some (ci, 0)) (h' : HS) (hh : h' = pI h a k x) (q : Jx sk own cc nL ret d v0 h0 (pc + 3) L (st) h') : Jx sk own cc nL ret d v0 h0 (pc) L (.int x :: .ref a :: st) h := by
  subst hh
  refine j_putT (h' := pI h a k x) hd F hf (fun ad => ?_) (fun ad => ⟨rfl, rfl⟩) (fun b hb => ⟨?_, rfl, rfl⟩) (fun ad j t hj => ?_) q
  · simp [fv, pI, tv]
  · funext y
    simp [pI, hb]
  · unfold fv
    split
    · simp [pI, hj]
    · rfl
    · rfl
    · rfl
theorem j_putL {a k ci index : Nat} {x : Int64} (hd : decode cc pc = .ok (.putfield index, 3)) (F : FLp own index ci k .long) (hf : fk sk a k = some (ci, 1)) (h' : HS) (hh : h' = pL h a k x) (q : Jx sk own cc nL ret d v0 h0 (pc + 3) L (st) h') : Jx sk own cc nL ret d v0 h0 (pc) L (.long x :: .ref a :: st) h := by
  subst hh
  refine j_putT (h' := pL h a k x) hd F hf (fun ad => ?_) (fun ad => ⟨rfl, rfl⟩) (fun b hb => ⟨rfl, ?_, rfl⟩) (fun ad j t hj => ?_) q
  · simp [fv, pL, tv]
  · funext y
    simp [pL, hb]
  · unfold fv
    split
    · rfl
    · simp [pL, hj]
    · rfl
    · rfl
theorem j_putQ {a k ci index b : Nat} {ty : FieldType} (hd : decode cc pc = .ok (.putfield index, 3)) (F : FLp own index ci k ty) (hty : ∀ z : Nat, narrow ty (.ref z) = .ref z ∧ fits ty (.ref z) = true) (hf : fk sk a k = some (ci, 2)) (h' : HS) (hh : h' = pR h a k (some b)) (q : Jx sk own cc nL ret d v0 h0 (pc + 3) L (st) h') : Jx sk own cc nL ret d v0 h0 (pc) L (.ref b :: .ref a :: st) h := by
  subst hh
  refine j_putT (v := .ref b) (h' := pR h a k (some b)) hd F hf (fun ad => ?_) (fun ad => hty (ad b)) (fun b hb => ⟨rfl, rfl, ?_⟩) (fun ad j t hj => ?_) q
  · simp [fv, pR, tv, va_rf]
  · funext y
    simp [pR, hb]
  · unfold fv
    split
    · rfl
    · rfl
    · simp [pR, hj]
    · rfl

def inb (i : Int32) (n : Nat) : Bool := decide (¬ (i < 0 ∨ n ≤ i.toNatClampNeg))
theorem inb_in {i : Int32} {n : Nat} (h : inb i n = true) : vp_in i n := by
  unfold inb at h
  have h2 : ¬ (i < 0 ∨ n ≤ i.toNatClampNeg) := of_decide_eq_true h
  exact h2
theorem cel_i {ca ad : Nat → Nat} {h : HS} {a n : Nat} {l : List Nat} : cel ca ad h a (1, n, l) = .inl (ca 1, n, .inl (h.1 a)) := rfl
theorem j_iaload {a n j : Nat} {i : Int32} (hd : decode cc pc = .ok (.iaload, 1)) (hs : ak sk a = some (1, n)) (hi : inb i n = true) (hj : i.toNatClampNeg = j) (k : Jx sk own cc nL ret d v0 h0 (pc + 1) L (.int (gI h a j) :: st) h) : Jx sk own cc nL ret d v0 h0 (pc) L (.int i :: .ref a :: st) h := by
  subst hj
  intro p l e s m args below meth c D ca ad A H locs ls Z R hRf hRl C hK hP hD hS hl hR
  obtain ⟨u, l9, -, g1⟩ := ak_of hs
  exact va_iald C.1 C.2.1 hK.1 hP a 0 (wld_get g1) rfl (inb_in hi) hd (k p l e s m args below meth c D ca ad A H locs ls Z R hRf hRl C hK hP hD hS hl hR)
theorem j_baload {a n j : Nat} {i : Int32} (hd : decode cc pc = .ok (.baload, 1)) (hs : ak sk a = some (2, n)) (hi : inb i n = true) (hj : i.toNatClampNeg = j) (k : Jx sk own cc nL ret d v0 h0 (pc + 1) L (.int (gI h a j) :: st) h) : Jx sk own cc nL ret d v0 h0 (pc) L (.int i :: .ref a :: st) h := by
  subst hj
  intro p l e s m args below meth c D ca ad A H locs ls Z R hRf hRl C hK hP hD hS hl hR
  obtain ⟨u, l9, -, g1⟩ := ak_of hs
  exact va_bald C.1 C.2.1 hK.1 hP a 1 (wld_get g1) rfl (inb_in hi) hd (k p l e s m args below meth c D ca ad A H locs ls Z R hRf hRl C hK hP hD hS hl hR)
theorem j_zaload {a n j : Nat} {i : Int32} (hd : decode cc pc = .ok (.baload, 1)) (hs : ak sk a = some (3, n)) (hi : inb i n = true) (hj : i.toNatClampNeg = j) (k : Jx sk own cc nL ret d v0 h0 (pc + 1) L (.int (gI h a j) :: st) h) : Jx sk own cc nL ret d v0 h0 (pc) L (.int i :: .ref a :: st) h := by
  subst hj
  intro p l e s m args below meth c D ca ad A H locs ls Z R hRf hRl C hK hP hD hS hl hR
  obtain ⟨u, l9, -, g1⟩ := ak_of hs
  exact va_zald C.1 C.2.1 hK.1 hP a 2 (wld_get g1) rfl (inb_in hi) hd (k p l e s m args below meth c D ca ad A H locs ls Z R hRf hRl C hK hP hD hS hl hR)

theorem j_aaload {a n b : Nat} {i : Int32} (hd : decode cc pc = .ok (.aaload, 1)) (hs : sk[a]? = some (5, n, [b])) (hi : inb i n = true) (k : Jx sk own cc nL ret d v0 h0 (pc + 1) L (.ref (b + i.toNatClampNeg) :: st) h) : Jx sk own cc nL ret d v0 h0 (pc) L (.int i :: .ref a :: st) h := by
  intro p l e s m args below meth c D ca ad A H locs ls Z R hRf hRl C hK hP hD hS hl hR
  have hin := inb_in hi
  have hlt : i.toNatClampNeg < n := Nat.not_le.mp fun q => hin (Or.inr q)
  refine W.aald (v := .ref (ad (b + i.toNatClampNeg))) (ty := .array .int) C.1 C.2.1 (hP a _ (wld_get hs)) ((hK.1.2 4 _ rfl).1 n (fun j => va_rf (some (ad (b + j))))) rfl (fun q => by cases q) (by show ¬ (i < 0 ∨ (arrV _ _ _).slots.size ≤ _); rw [arrV_size]; exact hin) (by show (arrV _ _ _).slots[_]? = _; rw [arrV_read _ _ hlt]; rfl) rfl rfl hd ?_
  exact k p l e s m args below meth c D ca ad A H locs ls Z R hRf hRl C hK hP hD hS hl hR
theorem j_alen {a n : Nat} {v : Int32} (hd : decode cc pc = .ok (.arraylength, 1)) (hs : ak sk a = some (1, n)) (hv : Int32.ofNat n = v) (k : Jx sk own cc nL ret d v0 h0 (pc + 1) L (.int v :: st) h) : Jx sk own cc nL ret d v0 h0 (pc) L (.ref a :: st) h := by
  intro p l e s m args below meth c D ca ad A H locs ls Z R hRf hRl C hK hP hD hS hl hR
  obtain ⟨u, l9, -, g1⟩ := ak_of hs
  exact va_alen C.1 C.2.1 hK.1 hP a 0 (wld_get g1) rfl hv hd (k p l e s m args below meth c D ca ad A H locs ls Z R hRf hRl C hK hP hD hS hl hR)
theorem ho_pI {h : HS} {a k : Nat} {x : Int32} : ∀ b, b ≠ a → (pI h a k x).1 b = h.1 b ∧ (pI h a k x).2.1 b = h.2.1 b ∧ (pI h a k x).2.2 b = h.2.2 b := fun b hb => ⟨by funext y; simp [pI, hb], rfl, rfl⟩
theorem pI_upd (h : HS) (a k : Nat) (x : Int32) : (pI h a k x).1 a = upd (h.1 a) k x := by
  funext y
  simp [pI, upd]

theorem j_iastore {a n j : Nat} {i x : Int32} (hd : decode cc pc = .ok (.iastore, 1)) (hs : ak sk a = some (1, n)) (hi : inb i n = true) (hj : i.toNatClampNeg = j) (h' : HS) (hh : h' = pI h a j x) (k : Jx sk own cc nL ret d v0 h0 (pc + 1) L (st) h') : Jx sk own cc nL ret d v0 h0 (pc) L (.int x :: .int i :: .ref a :: st) h := by
  subst hj
  subst hh
  intro p l e s m args below meth c D ca ad A H locs ls Z R hRf hRl C hK hP hD hS hl hR
  obtain ⟨u, l9, -, g1⟩ := ak_of hs
  refine va_iast C.1 C.2.1 hK.1 hP hD hS a 0 (wld_get g1) rfl (inb_in hi) hd (fun H1 locs1 hP1 hD1 hS1 => ?_)
  have e2 : (wld sk ca ad h).set a (ad a, .inl (ca 1, n, .inl (upd (h.1 a) i.toNatClampNeg x))) = wld sk ca ad (pI h a i.toNatClampNeg x) := by
    rw [← pI_upd]
    exact wld_set (h' := pI h a i.toNatClampNeg x) g1 ho_pI
  rw [e2] at hP1
  exact k p l e s m args below meth c D ca ad A H1 locs1 ls Z R hRf hRl C hK hP1 (wld_D _ hD) hS1 hl hR

theorem j_bastore {a n j : Nat} {i x : Int32} (hd : decode cc pc = .ok (.bastore, 1)) (hs : ak sk a = some (2, n)) (hi : inb i n = true) (hj : i.toNatClampNeg = j) (h' : HS) (hh : h' = pI h a j (vp_nar .byte x)) (k : Jx sk own cc nL ret d v0 h0 (pc + 1) L (st) h') : Jx sk own cc nL ret d v0 h0 (pc) L (.int x :: .int i :: .ref a :: st) h := by
  subst hj
  subst hh
  intro p l e s m args below meth c D ca ad A H locs ls Z R hRf hRl C hK hP hD hS hl hR
  obtain ⟨u, l9, -, g1⟩ := ak_of hs
  refine va_bast C.1 C.2.1 hK.1 hP hD hS a 1 (wld_get g1) rfl (inb_in hi) hd (fun H1 locs1 hP1 hD1 hS1 => ?_)
  have e2 : (wld sk ca ad h).set a (ad a, .inl (ca 2, n, .inl (upd (h.1 a) i.toNatClampNeg (vp_nar .byte x)))) = wld sk ca ad (pI h a i.toNatClampNeg (vp_nar .byte x)) := by
    rw [← pI_upd]
    exact wld_set (h' := pI h a i.toNatClampNeg (vp_nar .byte x)) g1 ho_pI
  rw [e2] at hP1
  exact k p l e s m args below meth c D ca ad A H1 locs1 ls Z R hRf hRl C hK hP1 (wld_D _ hD) hS1 hl hR

theorem j_zastore {a n j : Nat} {i x : Int32} (hd : decode cc pc = .ok (.bastore, 1)) (hs : ak sk a = some (3, n)) (hi : inb i n = true) (hj : i.toNatClampNeg = j) (h' : HS) (hh : h' = pI h a j (vp_nar .boolean x)) (k : Jx sk own cc nL ret d v0 h0 (pc + 1) L (st) h') : Jx sk own cc nL ret d v0 h0 (pc) L (.int x :: .int i :: .ref a :: st) h := by
  subst hj
  subst hh
  intro p l e s m args below meth c D ca ad A H locs ls Z R hRf hRl C hK hP hD hS hl hR
  obtain ⟨u, l9, -, g1⟩ := ak_of hs
  refine va_zast C.1 C.2.1 hK.1 hP hD hS a 2 (wld_get g1) rfl (inb_in hi) hd (fun H1 locs1 hP1 hD1 hS1 => ?_)
  have e2 : (wld sk ca ad h).set a (ad a, .inl (ca 3, n, .inl (upd (h.1 a) i.toNatClampNeg (vp_nar .boolean x)))) = wld sk ca ad (pI h a i.toNatClampNeg (vp_nar .boolean x)) := by
    rw [← pI_upd]
    exact wld_set (h' := pI h a i.toNatClampNeg (vp_nar .boolean x)) g1 ho_pI
  rw [e2] at hP1
  exact k p l e s m args below meth c D ca ad A H1 locs1 ls Z R hRf hRl C hK hP1 (wld_D _ hD) hS1 hl hR

theorem j_copyI {a b n0 n1 index : Nat} {sp dp n : Int32} (hd : decode cc pc = .ok (.invokestatic index, 3)) (hw : Cond.methodLink own index arraycopyName ∈ GW ∧ Cond.native arraycopyName ∈ GW ∧ Cond.static arraycopyName ∈ GW ∧ Cond.initialized "java/lang/System" ∈ GW) (hs0 : ak sk a = some (1, n0)) (hs1 : ak sk b = some (1, n1)) (h1 : ¬ sp < 0) (h2 : ¬ dp < 0) (h3 : ¬ n < 0) (h4 : sp.toNatClampNeg + n.toNatClampNeg ≤ n0) (h5 : dp.toNatClampNeg + n.toNatClampNeg ≤ n1)
    (hst : (st.map fun v => v.category).sum ≤ 8) (h' : HS) (hh : h' = cpI h a b sp.toNatClampNeg dp.toNatClampNeg n.toNatClampNeg) (k : Jx sk own cc nL ret d v0 h0 (pc + 3) L (st) h') : Jx sk own cc nL ret d v0 h0 (pc) L (.int n :: .int dp :: .ref b :: .int sp :: .ref a :: st) h := by
  subst hh
  intro p l e s m args below meth c D ca ad A H locs ls Z R hRf hRl C hK hP hD hS hl hR
  obtain ⟨u, l9, -, g1⟩ := ak_of hs0
  obtain ⟨u, l8, -, g2⟩ := ak_of hs1
  have hst' : ((st.map (tv ad)).map fun v => v.category).sum ≤ 8 := by
    rw [List.map_map]
    have : ((fun v : Value => v.category) ∘ tv ad) = (fun v => v.category) := by funext v; exact tv_cat ad v
    rw [this]
    exact hst
  refine va_copyi C.1 C.2.1 (C.2.2.1.trans hl.1.symm) C.2.2.2.1 (C.2.2.2.2 _ hw.1) (C.2.2.2.2 _ hw.2.1) (C.2.2.2.2 _ hw.2.2.1) (C.2.2.2.2 _ hw.2.2.2) hK.1 hP hD hS a b 0 0 (wld_get g1) (wld_get g2) rfl rfl rfl h1 h2 h3 h4 h5 (fun _ _ => rfl) (by omega) (by
    have e : nativeFrameWords "java/lang/System" "arraycopy" 5 + 11 ≤ 50 := by decide +kernel
    omega) hd (fun H1 locs1 hP1 hD1 hS1 => ?_)
  have e2 : (wld sk ca ad h).set b (ad b, .inl (ca 1, n1, .inl (va_cpy (h.1 a) (h.1 b) sp.toNatClampNeg dp.toNatClampNeg n.toNatClampNeg))) = wld sk ca ad (cpI h a b sp.toNatClampNeg dp.toNatClampNeg n.toNatClampNeg) := by
    have e1 : (cpI h a b sp.toNatClampNeg dp.toNatClampNeg n.toNatClampNeg).1 b = va_cpy (h.1 a) (h.1 b) sp.toNatClampNeg dp.toNatClampNeg n.toNatClampNeg := by
      funext y
      simp [cpI]
    rw [← e1]
    exact wld_set (h' := cpI h a b sp.toNatClampNeg dp.toNatClampNeg n.toNatClampNeg) g2 (fun z hz => ⟨by funext y; simp [cpI, hz], rfl, rfl⟩)
  rw [e2] at hP1
  exact k p l e s m args below meth c D ca ad A H1 locs1 ls Z R hRf hRl C hK hP1 (wld_D _ hD) hS1 hl hR

def imax (x y : Int32) : Int32 := if x < y then y else x
def imin (x y : Int32) : Int32 := if y < x then y else x
def iabs (x : Int32) : Int32 := if 0 ≤ x then x else 0 - x
def lmax (x y : Int64) : Int64 := if y < x then x else y
def lmin (x y : Int64) : Int64 := if y < x then y else x
def labs (x : Int64) : Int64 := if 0 < x then x else -x
theorem st_tv {ad : Nat → Nat} {st : List Value} (hst : (st.map fun v => v.category).sum ≤ 8) : ((st.map (tv ad)).map fun v => v.category).sum ≤ 8 := by
  rw [List.map_map]
  have : ((fun v : Value => v.category) ∘ tv ad) = (fun v => v.category) := by funext v; exact tv_cat ad v
  rw [this]
  exact hst
/-- the words of a call of a library method -/
def MW (own : String) (index : Nat) (y : MethodName) (cc : ByteArray) (n : Nat) (ret : Option FieldType) : Prop := Cond.methodLink own index y ∈ GW ∧ Cond.static y ∈ GW ∧ Cond.initialized "java/lang/Math" ∈ GW ∧ Cond.code y cc n ret ∈ GW
theorem j_mmax {index : Nat} {x y : Int32} (hd : decode cc pc = .ok (.invokestatic index, 3)) (hw : MW own index Lib.Math.max.name Lib.Math.max.code 2 (some .int)) (hst : (st.map fun v => v.category).sum ≤ 8) (k : Jx sk own cc nL ret d v0 h0 (pc + 3) L (.int (imax x y) :: st) h) : Jx sk own cc nL ret d v0 h0 (pc) L (.int y :: .int x :: st) h := by
  intro p l e s m args below meth c D ca ad A H locs ls Z R hRf hRl C hK hP hD hS hl hR
  have hst' := st_tv (ad := ad) hst
  exact va_mmax C.1 C.2.1 (C.2.2.1.trans hl.1.symm) C.2.2.2.1 (C.2.2.2.2 _ hw.1) (C.2.2.2.2 _ hw.2.1) (C.2.2.2.2 _ hw.2.2.1) (C.2.2.2.2 _ hw.2.2.2) (by omega) (by omega) (Nat.zero_le _) (Nat.zero_le _) hd (k p l e s m args below meth c D ca ad A H locs ls Z R hRf hRl C hK hP hD hS hl hR)
theorem j_mmin {index : Nat} {x y : Int32} (hd : decode cc pc = .ok (.invokestatic index, 3)) (hw : MW own index Lib.Math.min.name Lib.Math.min.code 2 (some .int)) (hst : (st.map fun v => v.category).sum ≤ 8) (k : Jx sk own cc nL ret d v0 h0 (pc + 3) L (.int (imin x y) :: st) h) : Jx sk own cc nL ret d v0 h0 (pc) L (.int y :: .int x :: st) h := by
  intro p l e s m args below meth c D ca ad A H locs ls Z R hRf hRl C hK hP hD hS hl hR
  have hst' := st_tv (ad := ad) hst
  exact va_mmin C.1 C.2.1 (C.2.2.1.trans hl.1.symm) C.2.2.2.1 (C.2.2.2.2 _ hw.1) (C.2.2.2.2 _ hw.2.1) (C.2.2.2.2 _ hw.2.2.1) (C.2.2.2.2 _ hw.2.2.2) (by omega) (by omega) (Nat.zero_le _) (Nat.zero_le _) hd (k p l e s m args below meth c D ca ad A H locs ls Z R hRf hRl C hK hP hD hS hl hR)
theorem j_mabs {index : Nat} {x : Int32} (hd : decode cc pc = .ok (.invokestatic index, 3)) (hw : MW own index Lib.Math.abs.name Lib.Math.abs.code 1 (some .int)) (hst : (st.map fun v => v.category).sum ≤ 8) (k : Jx sk own cc nL ret d v0 h0 (pc + 3) L (.int (iabs x) :: st) h) : Jx sk own cc nL ret d v0 h0 (pc) L (.int x :: st) h := by
  intro p l e s m args below meth c D ca ad A H locs ls Z R hRf hRl C hK hP hD hS hl hR
  have hst' := st_tv (ad := ad) hst
  exact va_mabs C.1 C.2.1 (C.2.2.1.trans hl.1.symm) C.2.2.2.1 (C.2.2.2.2 _ hw.1) (C.2.2.2.2 _ hw.2.1) (C.2.2.2.2 _ hw.2.2.1) (C.2.2.2.2 _ hw.2.2.2) (by omega) (by omega) (Nat.zero_le _) (Nat.zero_le _) hd (k p l e s m args below meth c D ca ad A H locs ls Z R hRf hRl C hK hP hD hS hl hR)
theorem j_mmaxL {index : Nat} {x y : Int64} (hd : decode cc pc = .ok (.invokestatic index, 3)) (hw : MW own index Lib.MathLoose.max_long.x Lib.MathLoose.max_long.code 4 (some .long)) (hst : (st.map fun v => v.category).sum ≤ 8) (k : Jx sk own cc nL ret d v0 h0 (pc + 3) L (.long (lmax x y) :: st) h) : Jx sk own cc nL ret d v0 h0 (pc) L (.long y :: .long x :: st) h := by
  intro p l e s m args below meth c D ca ad A H locs ls Z R hRf hRl C hK hP hD hS hl hR
  have hst' := st_tv (ad := ad) hst
  exact va_mmax_long C.1 C.2.1 (C.2.2.1.trans hl.1.symm) C.2.2.2.1 (C.2.2.2.2 _ hw.1) (C.2.2.2.2 _ hw.2.1) (C.2.2.2.2 _ hw.2.2.1) (C.2.2.2.2 _ hw.2.2.2) (by omega) (by omega) (Nat.zero_le _) (Nat.zero_le _) hd (k p l e s m args below meth c D ca ad A H locs ls Z R hRf hRl C hK hP hD hS hl hR)
theorem j_mminL {index : Nat} {x y : Int64} (hd : decode cc pc = .ok (.invokestatic index, 3)) (hw : MW own index Lib.MathLoose.min_long.x Lib.MathLoose.min_long.code 4 (some .long)) (hst : (st.map fun v => v.category).sum ≤ 8) (k : Jx sk own cc nL ret d v0 h0 (pc + 3) L (.long (lmin x y) :: st) h) : Jx sk own cc nL ret d v0 h0 (pc) L (.long y :: .long x :: st) h := by
  intro p l e s m args below meth c D ca ad A H locs ls Z R hRf hRl C hK hP hD hS hl hR
  have hst' := st_tv (ad := ad) hst
  exact va_mmin_long C.1 C.2.1 (C.2.2.1.trans hl.1.symm) C.2.2.2.1 (C.2.2.2.2 _ hw.1) (C.2.2.2.2 _ hw.2.1) (C.2.2.2.2 _ hw.2.2.1) (C.2.2.2.2 _ hw.2.2.2) (by omega) (by omega) (Nat.zero_le _) (Nat.zero_le _) hd (k p l e s m args below meth c D ca ad A H locs ls Z R hRf hRl C hK hP hD hS hl hR)
theorem j_mabsL {index : Nat} {x : Int64} (hd : decode cc pc = .ok (.invokestatic index, 3)) (hw : MW own index Lib.MathLoose.abs_long.x Lib.MathLoose.abs_long.code 2 (some .long)) (hst : (st.map fun v => v.category).sum ≤ 8) (k : Jx sk own cc nL ret d v0 h0 (pc + 3) L (.long (labs x) :: st) h) : Jx sk own cc nL ret d v0 h0 (pc) L (.long x :: st) h := by
  intro p l e s m args below meth c D ca ad A H locs ls Z R hRf hRl C hK hP hD hS hl hR
  have hst' := st_tv (ad := ad) hst
  exact va_mabs_long C.1 C.2.1 (C.2.2.1.trans hl.1.symm) C.2.2.2.1 (C.2.2.2.2 _ hw.1) (C.2.2.2.2 _ hw.2.1) (C.2.2.2.2 _ hw.2.2.1) (C.2.2.2.2 _ hw.2.2.2) (by omega) (by omega) (Nat.zero_le _) (Nat.zero_le _) hd (k p l e s m args below meth c D ca ad A H locs ls Z R hRf hRl C hK hP hD hS hl hR)
/-- a method's own words: YV of an instance's, YS of a static one -/
def YV (y : MethodName) (bytes : ByteArray) (maxL : Nat) (rt : Option FieldType) (n : Nat) : Prop := Cond.instanceMethod y ∈ GW ∧ Cond.selects y.cls y y ∈ GW ∧ Cond.initialized y.cls ∈ GW ∧ Cond.code y bytes maxL rt ∈ GW ∧ (y.cls ≠ "java/lang/invoke/MethodHandle" ∧ y.cls ≠ "java/lang/invoke/VarHandle" ∧ (parseMethodDescriptor y.desc).map (fun d => d.parameters.length) = some n) ∧ maxL ≤ 41
def YS (y : MethodName) (bytes : ByteArray) (maxL : Nat) (rt : Option FieldType) (n : Nat) : Prop := Cond.static y ∈ GW ∧ Cond.initialized y.cls ∈ GW ∧ Cond.code y bytes maxL rt ∈ GW ∧ (y.cls ≠ "java/lang/invoke/MethodHandle" ∧ y.cls ≠ "java/lang/invoke/VarHandle" ∧ (parseMethodDescriptor y.desc).map (fun d => d.parameters.length) = some n) ∧ maxL ≤ 41
theorem Cn_blind {D : va_G} {ca ad : Nat → Nat} {av : List Value} : FrameBlind (va_Pc av (fun U => va_P D vwCl (wld sk ca ad h) U.heap ∧ KX D ca U ∧ va_D (fun _ => True) (wld sk ca ad h))) := fun a U g mk q => by
  obtain ⟨q0, qP, qK, qD⟩ := q
  exact ⟨q0, qP, qK.call, qD⟩
theorem adA_in {ca ad : Nat → Nat} {A : Nat → Prop} (hD : va_D A (wld sk ca ad h)) {q : Nat} (hq : adA sk ad q) : A q := by
  obtain ⟨k, hk, rfl⟩ := hq
  exact hD.2 k _ (wld_get (List.getElem?_eq_getElem hk))
/-- behind a call -/
theorem j_back {p : Program} {l : Launch} {e : Env} {s : State} {m : MethodId} {args : Array Value} {below : List Frame} {meth : Method} {c : Code} {D : va_G} {ca ad : Nat → Nat} {A : Nat → Prop} {H : Heap} {locs : List Loc} {ls : Array Slot} {Z : State → Prop} {R : Room} {r : Option Value} {h1 : HS} {st0 rest : List Value} (hD : va_D A (wld sk ca ad h)) (hS : va_S A s.heap H locs)
    (hr : va_Run p l e R s m args below meth c H locs 0 0 0 0 (F0 m pc ls st0) rest (fun st oc t => oc = .returned (r.map (tv ad)) ∧ va_P D vwCl (wld sk ca ad h1) t.heap ∧ va_F (adA sk ad) st t) (adA sk ad))
    (kk : ∀ (H1 : Heap) (locs1 : List Loc), va_P D vwCl (wld sk ca ad h1) H1 → va_S A s.heap H1 locs1 → W p l e R s m args below meth c H1 locs1 0 0 Z (F0 m (pc + 3) ls ((r.map (tv ad)).toList ++ rest))) : W p l e R s m args below meth c H locs 0 0 Z (F0 m pc ls st0) := by
  intro T hT X
  obtain ⟨v, st₀, t, T', L9, e0, X', hL, e1, e2, ⟨hv, hP1, hz, hk⟩, st⟩ := hr T hT X
  cases hv
  rw [e0] at hz hk
  have hS1 : va_S A s.heap T'.heap (locs ++ L9) := ⟨Nat.le_trans hS.1 (by rw [e1]; exact hz), fun q h1 h2 => by
      rw [e1, hk q (Nat.lt_of_lt_of_le h1 hS.1) (fun z => h2 (adA_in hD z))]
      exact hS.2.1 q h1 h2, fun q hq => by
      rcases List.mem_append.mp hq with h | h
      · exact hS.2.2 q h
      · exact adA_in hD (hL q h)⟩
  obtain ⟨t2, a1, b1⟩ := kk T'.heap (locs ++ L9) (by rw [e1]; exact hP1) hS1 T' rfl X'
  exact ⟨t2, st t2 a1, b1⟩
theorem j_callV {y : MethodName} {bytes : ByteArray} {maxL n d1 index a ci : Nat} {rt : Option FieldType} {As : List Value} {h1 : HS} {r : Option Value} {fts : List Nat} {C1 : String} {T1 : u_T} {N1 : Nat} (hd : decode cc pc = .ok (.invokevirtual index, 3)) (hw : Cond.methodLink own index y ∈ GW) (hy : YV y bytes maxL rt n) (hC : Cn sk y bytes maxL rt d1 (.ref a :: As) h r h1) (hd1 : d1 + 1 ≤ d) (hs : sk[a]? = some (0, ci, fts)) (hcl : vwCl[ci]? = some (C1, T1, N1)) (hcy : C1 = y.cls) (hn : As.length = n)
    (hst : (st.map fun v => v.category).sum ≤ 8) {sta : List Value} (hsta : sta = As.reverse ++ .ref a :: st) (k : Jx sk own cc nL ret d v0 h0 (pc + 3) L (r.toList ++ st) h1) : Jx sk own cc nL ret d v0 h0 pc L sta h := by
  subst hsta
  subst hcy
  intro p l e s m args below meth c D ca ad A H locs ls Z R hRf hRl C hK hP hD hS hl hR
  have hst' := st_tv (ad := ad) hst
  have hts := C.2.2.2.2
  have hM := hC l D ca ad
  have hrun := va_runV (g := F0 m pc ls ((As.reverse ++ .ref a :: st).map (tv ad))) (As := As.map (tv ad)) (b := ad a) (rest := st.map (tv ad)) (locs := locs) (cells := 0) (slots := 0) (R := R) (below := below) (meth := meth) (e := e) (C := y.cls) (index := index) (n := n) C hM
    (cwV n hts (fun w hw' => by
      unfold wsV at hw'
      rcases List.mem_append.mp hw' with h | h
      · rcases List.mem_cons.mp h with rfl | h
        · exact gw_good _ hw
        · rcases List.mem_cons.mp h with rfl | h
          · exact gw_good _ hy.1
          · rcases List.mem_cons.mp h with rfl | h
            · exact gw_good _ hy.2.1
            · rcases List.mem_cons.mp h with rfl | h
              · exact gw_good _ hy.2.2.1
              · cases h
      · exact gw_cons hy.2.2.2.1 w h) rfl rfl rfl ⟨rfl, hy.2.2.2.2.1⟩ ⟨by show d1 + 1 + 1 ≤ R.frames; omega, by show 8 + (maxL + 11) + 60 * (d1 + 1) ≤ R.locals; have := hy.2.2.2.2.2; omega⟩)
    ⟨Cn_blind, va_recv hK.1 hP (ci := ci) (q0 := a) hcl (wld_get hs), fun U hU hW => ⟨by simp [tv], by rw [hU]; exact hP, hK.warm hW, hD.weaken (fun _ _ _ _ => trivial)⟩⟩ rfl (by simp [hn]) hl.1 (by simp [tv, List.map_reverse]) (lv_room hst') hd ⟨Nat.zero_le _, Nat.zero_le _⟩
  refine j_back (r := r) (h1 := h1) hD hS hrun (fun H1 locs1 hP1 hS1 => ?_)
  have e9 : (r.map (tv ad)).toList ++ st.map (tv ad) = (r.toList ++ st).map (tv ad) := by cases r <;> rfl
  rw [e9]
  exact k p l e s m args below meth c D ca ad A H1 locs1 ls Z R hRf hRl C hK hP1 (wld_D h1 hD) hS1 hl hR
theorem j_callS {y : MethodName} {bytes : ByteArray} {maxL n d1 index : Nat} {rt : Option FieldType} {As : List Value} {h1 : HS} {r : Option Value} (hd : decode cc pc = .ok (.invokestatic index, 3)) (hw : Cond.methodLink own index y ∈ GW) (hy : YS y bytes maxL rt n) (hC : Cn sk y bytes maxL rt d1 As h r h1) (hd1 : d1 + 1 ≤ d) (hn : As.length = n)
    (hst : (st.map fun v => v.category).sum ≤ 8) {sta : List Value} (hsta : sta = As.reverse ++ st) (k : Jx sk own cc nL ret d v0 h0 (pc + 3) L (r.toList ++ st) h1) : Jx sk own cc nL ret d v0 h0 pc L sta h := by
  subst hsta
  intro p l e s m args below meth c D ca ad A H locs ls Z R hRf hRl C hK hP hD hS hl hR
  have hst' := st_tv (ad := ad) hst
  have hts := C.2.2.2.2
  have hM := hC l D ca ad
  have hrun := va_runS (g := F0 m pc ls ((As.reverse ++ st).map (tv ad))) (As := As.map (tv ad)) (rest := st.map (tv ad)) (locs := locs) (cells := 0) (slots := 0) (R := R) (below := below) (meth := meth) (e := e) (index := index) (n := n) C hM
    ⟨callB_of n hts (gw_cons hy.2.2.1) rfl rfl rfl (hts _ hy.2.1) (hts _ hw) hy.2.2.2.1 ⟨by show d1 + 1 + 1 ≤ R.frames; omega, by show 8 + (maxL + 11) + 60 * (d1 + 1) ≤ R.locals; have := hy.2.2.2.2; omega⟩, hts _ hy.1⟩
    ⟨Cn_blind, fun U hU hW => ⟨by simp, by rw [hU]; exact hP, hK.warm hW, hD.weaken (fun _ _ _ _ => trivial)⟩⟩ rfl (by simp [hn]) hl.1 (by simp [List.map_reverse]) (lv_room hst') hd ⟨Nat.zero_le _, Nat.zero_le _⟩
  refine j_back (r := r) (h1 := h1) hD hS hrun (fun H1 locs1 hP1 hS1 => ?_)
  have e9 : (r.map (tv ad)).toList ++ st.map (tv ad) = (r.toList ++ st).map (tv ad) := by cases r <;> rfl
  rw [e9]
  exact k p l e s m args below meth c D ca ad A H1 locs1 ls Z R hRf hRl C hK hP1 (wld_D h1 hD) hS1 hl hR
theorem j_callSN {y : MethodName} {bytes : ByteArray} {maxL n d1 index : Nat} {host : String} {rt : Option FieldType} {As : List Value} {h1 : HS} {r : Option Value} (hd : decode cc pc = .ok (.invokestatic index, 3)) (hw : Cond.methodLinkNest own index y host ∈ NXs) (hy : YS y bytes maxL rt n) (hC : Cn sk y bytes maxL rt d1 As h r h1) (hd1 : d1 + 1 ≤ d) (hn : As.length = n)
    (hst : (st.map fun v => v.category).sum ≤ 8) {sta : List Value} (hsta : sta = As.reverse ++ st) (k : Jx sk own cc nL ret d v0 h0 (pc + 3) L (r.toList ++ st) h1) : Jx sk own cc nL ret d v0 h0 pc L sta h := by
  subst hsta
  intro p l e s m args below meth c D ca ad A H locs ls Z R hRf hRl C hK hP hD hS hl hR
  have hst' := st_tv (ad := ad) hst
  have hts := C.2.2.2.2
  have hM := hC l D ca ad
  have hrun := va_runSN (g := F0 m pc ls ((As.reverse ++ st).map (tv ad))) (As := As.map (tv ad)) (rest := st.map (tv ad)) (locs := locs) (cells := 0) (slots := 0) (R := R) (below := below) (meth := meth) (e := e) (index := index) (n := n) C hM
    ⟨va_cnB n hts (gw_cons hy.2.2.1) rfl rfl rfl (hK.2 _ hw) (hts _ hy.2.1) hy.2.2.2.1 ⟨by show d1 + 1 + 1 ≤ R.frames; omega, by show 8 + (maxL + 11) + 60 * (d1 + 1) ≤ R.locals; have := hy.2.2.2.2; omega⟩, hts _ hy.1, trivial⟩
    ⟨Cn_blind, fun U hU hW => ⟨by simp, by rw [hU]; exact hP, hK.warm hW, hD.weaken (fun _ _ _ _ => trivial)⟩⟩ rfl (by simp [hn]) hl.1 (by simp [List.map_reverse]) (lv_room hst') hd ⟨Nat.zero_le _, Nat.zero_le _⟩
  refine j_back (r := r) (h1 := h1) hD hS hrun (fun H1 locs1 hP1 hS1 => ?_)
  have e9 : (r.map (tv ad)).toList ++ st.map (tv ad) = (r.toList ++ st).map (tv ad) := by cases r <;> rfl
  rw [e9]
  exact k p l e s m args below meth c D ca ad A H1 locs1 ls Z R hRf hRl C hK hP1 (wld_D h1 hD) hS1 hl hR
/-- a method's entry -/
def entL : List Value → List (Option Value)
  | [] => []
  | v :: r => if v.category = 2 then some v :: none :: entL r else some v :: entL r
theorem entL_args (ad : Nat → Nat) : ∀ (vs : List Value) (i : Nat), lvL ad i (entL vs) = lv_args i (vs.map (tv ad))
  | [], i => rfl
  | v :: r, i => by
    by_cases hc : v.category = 2
    · simp only [entL, hc, if_true, lvL, List.map_cons, lv_args, tv_cat]
      rw [entL_args ad r]
    · simp only [entL, hc, if_false, lvL, List.map_cons, lv_args, tv_cat]
      rw [entL_args ad r]
theorem zret9 {p : Program} {l : Launch} {e : Env} {R : Room} {s : State} {m : MethodId} {args : Array Value} {below : List Frame} {meth : Method} {c : Code} {H : Heap} {locs : List Loc} {cells slots : Nat} {cc : ByteArray} {Qc : Array Value → State → Outcome → State → Prop} {free : Addr → Prop} {v w : Int32} {ty : FieldType} (hexec : p.tables.exec = Jvm.exec) (hb : c.code = cc) (hr : meth.sig.returnType = some ty) (hn : narrow ty (.int v) = .int w)
    (hq : ∀ t : State, t.heap = H → s.WarmedH t.vm → Qc args s (.returned (some (.int w))) t) (hf : ∀ q ∈ locs, free q.base)
    {pc : Nat} {ls : Array Slot} (hdg : decode cc pc = .ok (.ireturn, 1)) (hlocks : meth.locks = false) : W p l e R s m args below meth c H locs cells slots (MQ below Qc args s cells slots free) (F0 m pc ls [.int v]) := by
  intro T hT X
  have hlocks : meth.locks = false := hlocks
  obtain ⟨fs, hret, hrun, hended, hW, hframe⟩ := X.leave (v := some (.int w)) (fun h => by rw [hr] at h; cases h)
  have hmeth' : T.vm.method? m = some meth := X.method'
  refine ⟨T.setFrames fs, ?_, .returned (some (.int w)), hrun, hended, hq _ hT hW, locs, ⟨⟨_, rfl⟩, hW, hframe⟩, hf⟩
  jvm_step X.here [X.here.top, hexec, hb, hdg, hmeth', hr, hn]
  (try refine ⟨rfl, ?_⟩); (try refine ⟨rfl, ?_⟩)
  first | (intro acts; rw [hret _ acts rfl rfl rfl]) | rw [hret _ _ rfl rfl rfl]
  exact Steps.refl _
theorem nar_bool (x : Int32) : narrow .boolean (.int x) = .int (vp_nar .boolean x) := rfl
theorem Cn_of {y : MethodName} {as : List Value} {L : List (Option Value)} (hy : plainName y.cls = true) (hlen : (lg_sl as).length ≤ nL) (hlen2 : ∀ ad : Nat → Nat, (lg_sl (as.map (tv ad))).length = (lg_sl as).length) (hL : lsub L (entL as)) (hJ : Jx sk y.cls cc nL ret d v0 h0 0 L [] h) (hret : ret ≠ some (.object "") := by first | decide | nofun) : Cn sk y cc nL ret d as h v0 h0 := by
  intro l D ca ad
  refine Met.ofW (cc := cc) (maxL := nL) (ret := ret) hy rfl ?_
  intro p e s m args below meth c s₁ B hml hv
  obtain ⟨rfl, hP, hK, hD0⟩ := hv
  have hts : ∀ w ∈ GW, w.before ((as.map (tv ad)).toArray) s = true := fun w hw => atoms_spec (ws := .code y cc nL ret :: GW) B.pre w (List.mem_cons_of_mem _ hw)
  have hown : s.vm.findClass y.cls = some m.cls := findClass_of_methodNamed B.named
  have hlocks := B.notSynchronized
  have hD : va_D (adA sk ad) (wld sk ca ad h) := ⟨hD0.1, fun k q hk => by
    obtain ⟨r, h1, rfl⟩ := wld_inv hk
    exact ⟨k, (List.getElem?_eq_some_iff.mp h1).1, rfl⟩⟩
  have hl := lv_entry (as.map (tv ad)) (n := nL) (by rw [hlen2]; exact hlen)
  rw [← entL_args] at hl
  rw [lg_entry_eq]
  refine hJ p l e s m _ below meth c D ca ad (adA sk ad) s.heap [] _ _ _ (Nat.le_refl _) (Nat.le_refl _) ⟨B.exec, B.bytes, hml, hown, hts⟩ hK hP hD va_S.rf (lsub_has hL hl) ?_
  intro H' locs' pc' ls' st' hsz hP' hS' hI
  rcases hI with ⟨hr, x, rfl, rfl, hdg⟩ | ⟨hr, x, rfl, rfl, hdg⟩ | ⟨hr, x, rfl, rfl, hdg⟩ | ⟨hr, rfl, rfl, hdg⟩ | ⟨hr, -, -⟩
  · exact W.iret B.exec B.bytes (by rw [B.returns, hr]) (fun t ht hW => ⟨rfl, by rw [ht]; exact hP', hS'.F ht⟩) hS'.2.2 hdg
  · exact zret9 (w := vp_nar .boolean x) B.exec B.bytes (by rw [B.returns, hr]) (nar_bool x) (fun t ht hW => ⟨rfl, by rw [ht]; exact hP', hS'.F ht⟩) hS'.2.2 hdg hlocks
  · exact W.lret B.exec B.bytes (by rw [B.returns, hr]) (fun t ht hW => ⟨rfl, by rw [ht]; exact hP', hS'.F ht⟩) hS'.2.2 hdg
  · exact W.vret B.exec B.bytes (by rw [B.returns, hr]) (fun t ht hW => ⟨rfl, by rw [ht]; exact hP', hS'.F ht⟩) hS'.2.2 hdg
  · exact absurd hr hret

end JQ
