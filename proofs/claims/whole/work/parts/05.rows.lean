theorem xmC.hx {p : Program} {s : State} {m : MethodId} {args : Array Value} {meth : Method} {c : Code} {D : va_G} {ks : Nat → ClassId} {b nL : Nat} {cc : ByteArray} {own : String} (h : xmC p s m args meth c D ks b nL cc own) : p.tables.exec = Jvm.exec := h.1
theorem xmC.hb {p : Program} {s : State} {m : MethodId} {args : Array Value} {meth : Method} {c : Code} {D : va_G} {ks : Nat → ClassId} {b nL : Nat} {cc : ByteArray} {own : String} (h : xmC p s m args meth c D ks b nL cc own) : c.code = cc := h.2.1
theorem xmC.hm {p : Program} {s : State} {m : MethodId} {args : Array Value} {meth : Method} {c : Code} {D : va_G} {ks : Nat → ClassId} {b nL : Nat} {cc : ByteArray} {own : String} (h : xmC p s m args meth c D ks b nL cc own) : c.maxLocals = nL := h.2.2.1
theorem xmC.ho {p : Program} {s : State} {m : MethodId} {args : Array Value} {meth : Method} {c : Code} {D : va_G} {ks : Nat → ClassId} {b nL : Nat} {cc : ByteArray} {own : String} (h : xmC p s m args meth c D ks b nL cc own) : s.vm.findClass own = some m.cls := h.2.2.2.1
theorem xmC.ht {p : Program} {s : State} {m : MethodId} {args : Array Value} {meth : Method} {c : Code} {D : va_G} {ks : Nat → ClassId} {b nL : Nat} {cc : ByteArray} {own : String} (h : xmC p s m args meth c D ks b nL cc own) : ∀ w ∈ xmTs, w.before args s = true := h.2.2.2.2.1
theorem xmC.hk {p : Program} {s : State} {m : MethodId} {args : Array Value} {meth : Method} {c : Code} {D : va_G} {ks : Nat → ClassId} {b nL : Nat} {cc : ByteArray} {own : String} (h : xmC p s m args meth c D ks b nL cc own) : xmK D ks s := h.2.2.2.2.2.1
theorem xmC.hz {p : Program} {s : State} {m : MethodId} {args : Array Value} {meth : Method} {c : Code} {D : va_G} {ks : Nat → ClassId} {b nL : Nat} {cc : ByteArray} {own : String} (h : xmC p s m args meth c D ks b nL cc own) : b ≤ s.heap.size := h.2.2.2.2.2.2.1
theorem xmC.hq {p : Program} {s : State} {m : MethodId} {args : Array Value} {meth : Method} {c : Code} {D : va_G} {ks : Nat → ClassId} {b nL : Nat} {cc : ByteArray} {own : String} (h : xmC p s m args meth c D ks b nL cc own) : meth.locks = false := h.2.2.2.2.2.2.2
def xmCL (ci : Nat) (C : String) (T : u_T) (N : Nat) (ty : Nat → FieldType) : Prop := vwCl[ci]? = some (C, T, N) ∧ (∀ w ∈ u_ws C T N, w ∈ xmTs) ∧ (∀ k, k < N → parseFieldDescriptor (T k).2.2.1 = some (ty k)) ∧ (∀ a, a < N → ∀ b, b < N → a ≠ b → (T a).2.1 ≠ (T b).2.1)
section XROWS
variable {p : Program} {l : Launch} {e : Env} {R : Room} {s : State} {m : MethodId} {args : Array Value} {below : List Frame} {meth : Method} {c : Code} {D : va_G} {ks : Nat → ClassId} {b nL : Nat} {Q : State → Prop} {w : xmW} {cells slots pc : Nat} {lv : List (Nat × xmV)} {st : List xmV} {cc : ByteArray} {own : String}
theorem xj_iconst (hC : xmC p s m args meth c D ks b nL cc own) {n : Int} {v : Int32} (hdg : decode cc pc = .ok (.iconst n, 1)) (hv : Int32.ofInt n = v) (kk : xmJ p l e R s m args below meth c D ks b nL Q w cells slots (pc + 1) lv (xI v :: st)) : xmJ p l e R s m args below meth c D ks b nL Q w cells slots pc lv st := by
  intro H locs ls hP hS hl
  exact lv_iconst hC.hx hC.hb hdg hv (kk H locs ls hP hS hl)
theorem xj_bipush (hC : xmC p s m args meth c D ks b nL cc own) {n : Int} {v : Int32} (hdg : decode cc pc = .ok (.bipush n, 2)) (hv : (Int8.ofInt n).toInt32 = v) (kk : xmJ p l e R s m args below meth c D ks b nL Q w cells slots (pc + 2) lv (xI v :: st)) : xmJ p l e R s m args below meth c D ks b nL Q w cells slots pc lv st := by
  intro H locs ls hP hS hl
  exact lv_bipush hC.hx hC.hb hdg hv (kk H locs ls hP hS hl)
theorem xj_sipush (hC : xmC p s m args meth c D ks b nL cc own) {n : Int} {v : Int32} (hdg : decode cc pc = .ok (.sipush n, 3)) (hv : (Int16.ofInt n).toInt32 = v) (kk : xmJ p l e R s m args below meth c D ks b nL Q w cells slots (pc + 3) lv (xI v :: st)) : xmJ p l e R s m args below meth c D ks b nL Q w cells slots pc lv st := by
  intro H locs ls hP hS hl
  exact lv_sipush hC.hx hC.hb hdg hv (kk H locs ls hP hS hl)
theorem xj_lconst (hC : xmC p s m args meth c D ks b nL cc own) {n : Fin 2} {v : Int64} (hdg : decode cc pc = .ok (.lconst n, 1)) (hv : Int64.ofNat (n : Nat) = v) (kk : xmJ p l e R s m args below meth c D ks b nL Q w cells slots (pc + 1) lv (xL v :: st)) : xmJ p l e R s m args below meth c D ks b nL Q w cells slots pc lv st := by
  intro H locs ls hP hS hl
  exact lv_lconst hC.hx hC.hb hdg hv (kk H locs ls hP hS hl)
theorem xj_ldc2 (hC : xmC p s m args meth c D ks b nL cc own) {index : Nat} {v : Int64} (hw : Cond.constantLong own index v ∈ xmTs) (hdg : decode cc pc = .ok (.ldc2_w index, 3)) (kk : xmJ p l e R s m args below meth c D ks b nL Q w cells slots (pc + 3) lv (xL v :: st)) : xmJ p l e R s m args below meth c D ks b nL Q w cells slots pc lv st := by
  intro H locs ls hP hS hl
  exact lv_ldc2 hC.hx hC.hb hC.ho (hC.ht _ hw) hdg (kk H locs ls hP hS hl)
theorem xj_null (hC : xmC p s m args meth c D ks b nL cc own)  (hdg : decode cc pc = .ok (.aconst_null, 1)) (kk : xmJ p l e R s m args below meth c D ks b nL Q w cells slots (pc + 1) lv (xR none :: st)) : xmJ p l e R s m args below meth c D ks b nL Q w cells slots pc lv st := by
  intro H locs ls hP hS hl
  exact lv_null hC.hx hC.hb hdg (kk H locs ls hP hS hl)
theorem xj_iload_n (hC : xmC p s m args meth c D ks b nL cc own) {k : Fin 4} {i : Nat} {x : Int32} (hdg : decode cc pc = .ok (.iload_n k, 1)) (hi : (k : Nat) = i) (j : Nat) (hj : lv[j]? = some (i, xI x)) (kk : xmJ p l e R s m args below meth c D ks b nL Q w cells slots (pc + 1) lv (xI x :: st)) : xmJ p l e R s m args below meth c D ks b nL Q w cells slots pc lv st := by
  intro H locs ls hP hS hl
  exact lv_iload_n hC.hx hC.hb hdg hi (lv_at hl j (xmlv_at hj)) (kk H locs ls hP hS hl)
theorem xj_iload (hC : xmC p s m args meth c D ks b nL cc own) {i : Nat} {x : Int32} (hdg : decode cc pc = .ok (.iload i, 2)) (j : Nat) (hj : lv[j]? = some (i, xI x)) (kk : xmJ p l e R s m args below meth c D ks b nL Q w cells slots (pc + 2) lv (xI x :: st)) : xmJ p l e R s m args below meth c D ks b nL Q w cells slots pc lv st := by
  intro H locs ls hP hS hl
  exact lv_iload hC.hx hC.hb hdg (lv_at hl j (xmlv_at hj)) (kk H locs ls hP hS hl)
theorem xj_istore_n (hC : xmC p s m args meth c D ks b nL cc own) {k : Fin 4} {i : Nat} {x : Int32} {lv' : List (Nat × xmV)} (hdg : decode cc pc = .ok (.istore_n k, 1)) (hi : (k : Nat) = i) (hn : i < nL) (h : xmst i (xI x) lv = lv') (kk : xmJ p l e R s m args below meth c D ks b nL Q w cells slots (pc + 1) lv' st) : xmJ p l e R s m args below meth c D ks b nL Q w cells slots pc lv (xI x :: st) := by
  intro H locs ls hP hS hl
  subst h
  exact lv_istore_n hC.hx hC.hb hdg hi hl hn (congrArg (fun z => _ :: z) (xmlv_flt b i lv)) (fun ls1 hl1 => kk H locs ls1 hP hS hl1)
theorem xj_istore (hC : xmC p s m args meth c D ks b nL cc own) {i : Nat} {x : Int32} {lv' : List (Nat × xmV)} (hdg : decode cc pc = .ok (.istore i, 2)) (hn : i < nL) (h : xmst i (xI x) lv = lv') (kk : xmJ p l e R s m args below meth c D ks b nL Q w cells slots (pc + 2) lv' st) : xmJ p l e R s m args below meth c D ks b nL Q w cells slots pc lv (xI x :: st) := by
  intro H locs ls hP hS hl
  subst h
  exact lv_istore hC.hx hC.hb hdg hl hn (congrArg (fun z => _ :: z) (xmlv_flt b i lv)) (fun ls1 hl1 => kk H locs ls1 hP hS hl1)
theorem xj_lload_n (hC : xmC p s m args meth c D ks b nL cc own) {k : Fin 4} {i : Nat} {x : Int64} (hdg : decode cc pc = .ok (.lload_n k, 1)) (hi : (k : Nat) = i) (j : Nat) (hj : lv[j]? = some (i, xL x)) (kk : xmJ p l e R s m args below meth c D ks b nL Q w cells slots (pc + 1) lv (xL x :: st)) : xmJ p l e R s m args below meth c D ks b nL Q w cells slots pc lv st := by
  intro H locs ls hP hS hl
  exact lv_lload_n hC.hx hC.hb hdg hi (lv_at hl j (xmlv_at hj)) (kk H locs ls hP hS hl)
theorem xj_lload (hC : xmC p s m args meth c D ks b nL cc own) {i : Nat} {x : Int64} (hdg : decode cc pc = .ok (.lload i, 2)) (j : Nat) (hj : lv[j]? = some (i, xL x)) (kk : xmJ p l e R s m args below meth c D ks b nL Q w cells slots (pc + 2) lv (xL x :: st)) : xmJ p l e R s m args below meth c D ks b nL Q w cells slots pc lv st := by
  intro H locs ls hP hS hl
  exact lv_lload hC.hx hC.hb hdg (lv_at hl j (xmlv_at hj)) (kk H locs ls hP hS hl)
theorem xj_lstore_n (hC : xmC p s m args meth c D ks b nL cc own) {k : Fin 4} {i : Nat} {x : Int64} {lv' : List (Nat × xmV)} (hdg : decode cc pc = .ok (.lstore_n k, 1)) (hi : (k : Nat) = i) (hn : i + 1 < nL) (h : xmst2 i (xL x) lv = lv') (kk : xmJ p l e R s m args below meth c D ks b nL Q w cells slots (pc + 1) lv' st) : xmJ p l e R s m args below meth c D ks b nL Q w cells slots pc lv (xL x :: st) := by
  intro H locs ls hP hS hl
  subst h
  exact lv_lstore_n hC.hx hC.hb hdg hi hl hn (congrArg (fun z => _ :: z) (xmlv_flt2 b i lv)) (fun ls1 hl1 => kk H locs ls1 hP hS hl1)
theorem xj_lstore (hC : xmC p s m args meth c D ks b nL cc own) {i : Nat} {x : Int64} {lv' : List (Nat × xmV)} (hdg : decode cc pc = .ok (.lstore i, 2)) (hn : i + 1 < nL) (h : xmst2 i (xL x) lv = lv') (kk : xmJ p l e R s m args below meth c D ks b nL Q w cells slots (pc + 2) lv' st) : xmJ p l e R s m args below meth c D ks b nL Q w cells slots pc lv (xL x :: st) := by
  intro H locs ls hP hS hl
  subst h
  exact lv_lstore hC.hx hC.hb hdg hl hn (congrArg (fun z => _ :: z) (xmlv_flt2 b i lv)) (fun ls1 hl1 => kk H locs ls1 hP hS hl1)
theorem xj_aload_n (hC : xmC p s m args meth c D ks b nL cc own) {k : Fin 4} {i : Nat} {r : Option Nat} (hdg : decode cc pc = .ok (.aload_n k, 1)) (hi : (k : Nat) = i) (j : Nat) (hj : lv[j]? = some (i, xR r)) (kk : xmJ p l e R s m args below meth c D ks b nL Q w cells slots (pc + 1) lv (xR r :: st)) : xmJ p l e R s m args below meth c D ks b nL Q w cells slots pc lv st := by
  intro H locs ls hP hS hl
  have h1 := lv_at hl j (xmlv_at hj)
  have h2 := kk H locs ls hP hS hl
  cases r with
  | none => exact lv_aload_nN hC.hx hC.hb hdg hi h1 h2
  | some k => exact lv_aload_n hC.hx hC.hb hdg hi h1 h2
theorem xj_aloadS_n (hC : xmC p s m args meth c D ks b nL cc own) {k : Fin 4} {i a : Nat} (hdg : decode cc pc = .ok (.aload_n k, 1)) (hi : (k : Nat) = i) (j : Nat) (hj : lv[j]? = some (i, xS a)) (kk : xmJ p l e R s m args below meth c D ks b nL Q w cells slots (pc + 1) lv (xS a :: st)) : xmJ p l e R s m args below meth c D ks b nL Q w cells slots pc lv st := by
  intro H locs ls hP hS hl
  exact lv_aload_n hC.hx hC.hb hdg hi (lv_at hl j (xmlv_at hj)) (kk H locs ls hP hS hl)
theorem xj_aload (hC : xmC p s m args meth c D ks b nL cc own) {i : Nat} {r : Option Nat} (hdg : decode cc pc = .ok (.aload i, 2)) (j : Nat) (hj : lv[j]? = some (i, xR r)) (kk : xmJ p l e R s m args below meth c D ks b nL Q w cells slots (pc + 2) lv (xR r :: st)) : xmJ p l e R s m args below meth c D ks b nL Q w cells slots pc lv st := by
  intro H locs ls hP hS hl
  have h1 := lv_at hl j (xmlv_at hj)
  have h2 := kk H locs ls hP hS hl
  cases r with
  | none => exact lv_aloadN hC.hx hC.hb hdg h1 h2
  | some k => exact lv_aload hC.hx hC.hb hdg h1 h2
theorem xj_aloadS (hC : xmC p s m args meth c D ks b nL cc own) {i a : Nat} (hdg : decode cc pc = .ok (.aload i, 2)) (j : Nat) (hj : lv[j]? = some (i, xS a)) (kk : xmJ p l e R s m args below meth c D ks b nL Q w cells slots (pc + 2) lv (xS a :: st)) : xmJ p l e R s m args below meth c D ks b nL Q w cells slots pc lv st := by
  intro H locs ls hP hS hl
  exact lv_aload hC.hx hC.hb hdg (lv_at hl j (xmlv_at hj)) (kk H locs ls hP hS hl)
theorem xj_astore_n (hC : xmC p s m args meth c D ks b nL cc own) {k : Fin 4} {i : Nat} {r : Option Nat} {lv' : List (Nat × xmV)} (hdg : decode cc pc = .ok (.astore_n k, 1)) (hi : (k : Nat) = i) (hn : i < nL) (h : xmst i (xR r) lv = lv') (kk : xmJ p l e R s m args below meth c D ks b nL Q w cells slots (pc + 1) lv' st) : xmJ p l e R s m args below meth c D ks b nL Q w cells slots pc lv (xR r :: st) := by
  intro H locs ls hP hS hl
  subst h
  cases r with
  | none => exact lv_astore_nN hC.hx hC.hb hdg hi hl hn (congrArg (fun z => _ :: z) (xmlv_flt b i lv)) (fun ls1 hl1 => kk H locs ls1 hP hS hl1)
  | some k => exact lv_astore_n hC.hx hC.hb hdg hi hl hn (congrArg (fun z => _ :: z) (xmlv_flt b i lv)) (fun ls1 hl1 => kk H locs ls1 hP hS hl1)
theorem xj_astore (hC : xmC p s m args meth c D ks b nL cc own) {i : Nat} {r : Option Nat} {lv' : List (Nat × xmV)} (hdg : decode cc pc = .ok (.astore i, 2)) (hn : i < nL) (h : xmst i (xR r) lv = lv') (kk : xmJ p l e R s m args below meth c D ks b nL Q w cells slots (pc + 2) lv' st) : xmJ p l e R s m args below meth c D ks b nL Q w cells slots pc lv (xR r :: st) := by
  intro H locs ls hP hS hl
  subst h
  cases r with
  | none => exact lv_astoreN hC.hx hC.hb hdg hl hn (congrArg (fun z => _ :: z) (xmlv_flt b i lv)) (fun ls1 hl1 => kk H locs ls1 hP hS hl1)
  | some k => exact lv_astore hC.hx hC.hb hdg hl hn (congrArg (fun z => _ :: z) (xmlv_flt b i lv)) (fun ls1 hl1 => kk H locs ls1 hP hS hl1)
theorem xj_iinc (hC : xmC p s m args meth c D ks b nL cc own) {i : Nat} {n : Int} {x v : Int32} {lv' : List (Nat × xmV)} (hdg : decode cc pc = .ok (.iinc i n, 3)) (j : Nat) (hj : lv[j]? = some (i, xI x)) (hv : x + Int32.ofInt n = v) (hn : i < nL) (h : xmst i (xI v) lv = lv') (kk : xmJ p l e R s m args below meth c D ks b nL Q w cells slots (pc + 3) lv' st) : xmJ p l e R s m args below meth c D ks b nL Q w cells slots pc lv st := by
  intro H locs ls hP hS hl
  subst h
  exact lv_iinc hC.hx hC.hb hdg hl (k := j) (xmlv_at hj) hv hn (congrArg (fun z => _ :: z) (xmlv_flt b i lv)) (fun ls1 hl1 => kk H locs ls1 hP hS hl1)
theorem xj_iadd (hC : xmC p s m args meth c D ks b nL cc own) {x y : Int32} (hdg : decode cc pc = .ok (.iadd, 1)) (kk : xmJ p l e R s m args below meth c D ks b nL Q w cells slots (pc + 1) lv (xI (x + y) :: st)) : xmJ p l e R s m args below meth c D ks b nL Q w cells slots pc lv (xI y :: xI x :: st) := by
  intro H locs ls hP hS hl
  exact lv_iadd hC.hx hC.hb hdg (kk H locs ls hP hS hl)
theorem xj_isub (hC : xmC p s m args meth c D ks b nL cc own) {x y : Int32} (hdg : decode cc pc = .ok (.isub, 1)) (kk : xmJ p l e R s m args below meth c D ks b nL Q w cells slots (pc + 1) lv (xI (x - y) :: st)) : xmJ p l e R s m args below meth c D ks b nL Q w cells slots pc lv (xI y :: xI x :: st) := by
  intro H locs ls hP hS hl
  exact lv_isub hC.hx hC.hb hdg (kk H locs ls hP hS hl)
theorem xj_imul (hC : xmC p s m args meth c D ks b nL cc own) {x y : Int32} (hdg : decode cc pc = .ok (.imul, 1)) (kk : xmJ p l e R s m args below meth c D ks b nL Q w cells slots (pc + 1) lv (xI (x * y) :: st)) : xmJ p l e R s m args below meth c D ks b nL Q w cells slots pc lv (xI y :: xI x :: st) := by
  intro H locs ls hP hS hl
  exact lv_imul hC.hx hC.hb hdg (kk H locs ls hP hS hl)
theorem xj_iand (hC : xmC p s m args meth c D ks b nL cc own) {x y : Int32} (hdg : decode cc pc = .ok (.iand, 1)) (kk : xmJ p l e R s m args below meth c D ks b nL Q w cells slots (pc + 1) lv (xI (x &&& y) :: st)) : xmJ p l e R s m args below meth c D ks b nL Q w cells slots pc lv (xI y :: xI x :: st) := by
  intro H locs ls hP hS hl
  exact lv_iand hC.hx hC.hb hdg (kk H locs ls hP hS hl)
theorem xj_ior (hC : xmC p s m args meth c D ks b nL cc own) {x y : Int32} (hdg : decode cc pc = .ok (.ior, 1)) (kk : xmJ p l e R s m args below meth c D ks b nL Q w cells slots (pc + 1) lv (xI (x ||| y) :: st)) : xmJ p l e R s m args below meth c D ks b nL Q w cells slots pc lv (xI y :: xI x :: st) := by
  intro H locs ls hP hS hl
  exact lv_ior hC.hx hC.hb hdg (kk H locs ls hP hS hl)
theorem xj_ishl (hC : xmC p s m args meth c D ks b nL cc own) {x y : Int32} (hdg : decode cc pc = .ok (.ishl, 1)) (kk : xmJ p l e R s m args below meth c D ks b nL Q w cells slots (pc + 1) lv (xI (x <<< (y &&& 31)) :: st)) : xmJ p l e R s m args below meth c D ks b nL Q w cells slots pc lv (xI y :: xI x :: st) := by
  intro H locs ls hP hS hl
  exact lv_ishl hC.hx hC.hb hdg (kk H locs ls hP hS hl)
theorem xj_ishr (hC : xmC p s m args meth c D ks b nL cc own) {x y : Int32} (hdg : decode cc pc = .ok (.ishr, 1)) (kk : xmJ p l e R s m args below meth c D ks b nL Q w cells slots (pc + 1) lv (xI (x >>> (y &&& 31)) :: st)) : xmJ p l e R s m args below meth c D ks b nL Q w cells slots pc lv (xI y :: xI x :: st) := by
  intro H locs ls hP hS hl
  exact lv_ishr hC.hx hC.hb hdg (kk H locs ls hP hS hl)
theorem xj_idiv (hC : xmC p s m args meth c D ks b nL cc own) {x y : Int32} (hdg : decode cc pc = .ok (.idiv, 1)) (hne : ¬ y = 0) (kk : xmJ p l e R s m args below meth c D ks b nL Q w cells slots (pc + 1) lv (xI (x / y) :: st)) : xmJ p l e R s m args below meth c D ks b nL Q w cells slots pc lv (xI y :: xI x :: st) := by
  intro H locs ls hP hS hl
  exact lv_idiv hC.hx hC.hb hdg hne (kk H locs ls hP hS hl)
theorem xj_irem (hC : xmC p s m args meth c D ks b nL cc own) {x y : Int32} (hdg : decode cc pc = .ok (.irem, 1)) (hne : ¬ y = 0) (kk : xmJ p l e R s m args below meth c D ks b nL Q w cells slots (pc + 1) lv (xI (x - x / y * y) :: st)) : xmJ p l e R s m args below meth c D ks b nL Q w cells slots pc lv (xI y :: xI x :: st) := by
  intro H locs ls hP hS hl
  exact lv_irem hC.hx hC.hb hdg hne (kk H locs ls hP hS hl)
theorem xj_ineg (hC : xmC p s m args meth c D ks b nL cc own) {x : Int32} (hdg : decode cc pc = .ok (.ineg, 1)) (kk : xmJ p l e R s m args below meth c D ks b nL Q w cells slots (pc + 1) lv (xI (-x) :: st)) : xmJ p l e R s m args below meth c D ks b nL Q w cells slots pc lv (xI x :: st) := by
  intro H locs ls hP hS hl
  exact lv_ineg hC.hx hC.hb hdg (kk H locs ls hP hS hl)
theorem xj_ladd (hC : xmC p s m args meth c D ks b nL cc own) {x y : Int64} (hdg : decode cc pc = .ok (.ladd, 1)) (kk : xmJ p l e R s m args below meth c D ks b nL Q w cells slots (pc + 1) lv (xL (x + y) :: st)) : xmJ p l e R s m args below meth c D ks b nL Q w cells slots pc lv (xL y :: xL x :: st) := by
  intro H locs ls hP hS hl
  exact lv_ladd hC.hx hC.hb hdg (kk H locs ls hP hS hl)
theorem xj_lsub (hC : xmC p s m args meth c D ks b nL cc own) {x y : Int64} (hdg : decode cc pc = .ok (.lsub, 1)) (kk : xmJ p l e R s m args below meth c D ks b nL Q w cells slots (pc + 1) lv (xL (x - y) :: st)) : xmJ p l e R s m args below meth c D ks b nL Q w cells slots pc lv (xL y :: xL x :: st) := by
  intro H locs ls hP hS hl
  exact lv_lsub hC.hx hC.hb hdg (kk H locs ls hP hS hl)
theorem xj_lmul (hC : xmC p s m args meth c D ks b nL cc own) {x y : Int64} (hdg : decode cc pc = .ok (.lmul, 1)) (kk : xmJ p l e R s m args below meth c D ks b nL Q w cells slots (pc + 1) lv (xL (x * y) :: st)) : xmJ p l e R s m args below meth c D ks b nL Q w cells slots pc lv (xL y :: xL x :: st) := by
  intro H locs ls hP hS hl
  exact lv_lmul hC.hx hC.hb hdg (kk H locs ls hP hS hl)
theorem xj_land (hC : xmC p s m args meth c D ks b nL cc own) {x y : Int64} (hdg : decode cc pc = .ok (.land, 1)) (kk : xmJ p l e R s m args below meth c D ks b nL Q w cells slots (pc + 1) lv (xL (x &&& y) :: st)) : xmJ p l e R s m args below meth c D ks b nL Q w cells slots pc lv (xL y :: xL x :: st) := by
  intro H locs ls hP hS hl
  exact lv_land hC.hx hC.hb hdg (kk H locs ls hP hS hl)
theorem xj_lor (hC : xmC p s m args meth c D ks b nL cc own) {x y : Int64} (hdg : decode cc pc = .ok (.lor, 1)) (kk : xmJ p l e R s m args below meth c D ks b nL Q w cells slots (pc + 1) lv (xL (x ||| y) :: st)) : xmJ p l e R s m args below meth c D ks b nL Q w cells slots pc lv (xL y :: xL x :: st) := by
  intro H locs ls hP hS hl
  exact lv_lor hC.hx hC.hb hdg (kk H locs ls hP hS hl)
theorem xj_lneg (hC : xmC p s m args meth c D ks b nL cc own) {x : Int64} (hdg : decode cc pc = .ok (.lneg, 1)) (kk : xmJ p l e R s m args below meth c D ks b nL Q w cells slots (pc + 1) lv (xL (-x) :: st)) : xmJ p l e R s m args below meth c D ks b nL Q w cells slots pc lv (xL x :: st) := by
  intro H locs ls hP hS hl
  exact lv_lneg hC.hx hC.hb hdg (kk H locs ls hP hS hl)
theorem xj_lshl (hC : xmC p s m args meth c D ks b nL cc own) {x : Int64} {y : Int32} (hdg : decode cc pc = .ok (.lshl, 1)) (kk : xmJ p l e R s m args below meth c D ks b nL Q w cells slots (pc + 1) lv (xL (x <<< (y.toInt64 &&& 63)) :: st)) : xmJ p l e R s m args below meth c D ks b nL Q w cells slots pc lv (xI y :: xL x :: st) := by
  intro H locs ls hP hS hl
  exact lv_lshl hC.hx hC.hb hdg rfl (kk H locs ls hP hS hl)
theorem xj_lshr (hC : xmC p s m args meth c D ks b nL cc own) {x : Int64} {y : Int32} (hdg : decode cc pc = .ok (.lshr, 1)) (kk : xmJ p l e R s m args below meth c D ks b nL Q w cells slots (pc + 1) lv (xL (x >>> (y.toInt64 &&& 63)) :: st)) : xmJ p l e R s m args below meth c D ks b nL Q w cells slots pc lv (xI y :: xL x :: st) := by
  intro H locs ls hP hS hl
  exact lv_lshr hC.hx hC.hb hdg rfl (kk H locs ls hP hS hl)
theorem xj_i2l (hC : xmC p s m args meth c D ks b nL cc own) {x : Int32} (hdg : decode cc pc = .ok (.i2l, 1)) (kk : xmJ p l e R s m args below meth c D ks b nL Q w cells slots (pc + 1) lv (xL x.toInt64 :: st)) : xmJ p l e R s m args below meth c D ks b nL Q w cells slots pc lv (xI x :: st) := by
  intro H locs ls hP hS hl
  exact lv_i2l hC.hx hC.hb hdg rfl (kk H locs ls hP hS hl)
theorem xj_l2i (hC : xmC p s m args meth c D ks b nL cc own) {x : Int64} (hdg : decode cc pc = .ok (.l2i, 1)) (kk : xmJ p l e R s m args below meth c D ks b nL Q w cells slots (pc + 1) lv (xI x.toInt32 :: st)) : xmJ p l e R s m args below meth c D ks b nL Q w cells slots pc lv (xL x :: st) := by
  intro H locs ls hP hS hl
  exact lv_l2i hC.hx hC.hb hdg rfl (kk H locs ls hP hS hl)
theorem xj_lcmp (hC : xmC p s m args meth c D ks b nL cc own) {x y : Int64} (hdg : decode cc pc = .ok (.lcmp, 1)) (kk : xmJ p l e R s m args below meth c D ks b nL Q w cells slots (pc + 1) lv (xI (lg_cmp x y) :: st)) : xmJ p l e R s m args below meth c D ks b nL Q w cells slots pc lv (xL y :: xL x :: st) := by
  intro H locs ls hP hS hl
  exact W.lcmp hC.hx hC.hb hdg (kk H locs ls hP hS hl)
theorem xj_dup (hC : xmC p s m args meth c D ks b nL cc own) {v : xmV} (hdg : decode cc pc = .ok (.dup, 1)) (hv : xm2 v = false) (kk : xmJ p l e R s m args below meth c D ks b nL Q w cells slots (pc + 1) lv (v :: v :: st)) : xmJ p l e R s m args below meth c D ks b nL Q w cells slots pc lv (v :: st) := by
  intro H locs ls hP hS hl
  exact lv_dup hC.hx hC.hb hdg (by rw [xm_cat, hv]; rfl) (kk H locs ls hP hS hl)
theorem xj_pop (hC : xmC p s m args meth c D ks b nL cc own) {v : xmV} (hdg : decode cc pc = .ok (.pop, 1)) (hv : xm2 v = false) (kk : xmJ p l e R s m args below meth c D ks b nL Q w cells slots (pc + 1) lv st) : xmJ p l e R s m args below meth c D ks b nL Q w cells slots pc lv (v :: st) := by
  intro H locs ls hP hS hl
  exact lv_pop hC.hx hC.hb hdg (by rw [xm_cat, hv]; rfl) (kk H locs ls hP hS hl)
theorem xj_goto (hC : xmC p s m args meth c D ks b nL cc own) {off : Int} {tgt : Nat} (hdg : decode cc pc = .ok (.goto off, 3)) (ht : (pc : Int) + off = (tgt : Int)) (kk : xmJ p l e R s m args below meth c D ks b nL Q w cells slots tgt lv st) : xmJ p l e R s m args below meth c D ks b nL Q w cells slots pc lv st := by
  intro H locs ls hP hS hl
  exact lv_goto hC.hx hC.hb hdg ht (kk H locs ls hP hS hl)
theorem xj_if_eq (hC : xmC p s m args meth c D ks b nL cc own) {x : Int32} {off : Int} {tgt : Nat} (hdg : decode cc pc = .ok (.ifCond .eq off, 3)) (ht : (pc : Int) + off = (tgt : Int)) (kt : x = 0 → xmJ p l e R s m args below meth c D ks b nL Q w cells slots tgt lv st) (kf : ¬ x = 0 → xmJ p l e R s m args below meth c D ks b nL Q w cells slots (pc + 3) lv st) : xmJ p l e R s m args below meth c D ks b nL Q w cells slots pc lv (xI x :: st) := by
  intro H locs ls hP hS hl
  exact lv_if_eq hC.hx hC.hb hdg ht (fun h => kt h H locs ls hP hS hl) (fun h => kf h H locs ls hP hS hl)
theorem xb_if_eq (hC : xmC p s m args meth c D ks b nL cc own) {x : Int32} {off : Int} {tgt : Nat} {α : Type} {A B : Option α} {z : α} (hdg : decode cc pc = .ok (.ifCond .eq off, 3)) (ht : (pc : Int) + off = (tgt : Int)) (hf : (if x = 0 then A else B) = some z) (kt : A = some z → xmJ p l e R s m args below meth c D ks b nL Q w cells slots tgt lv st) (kf : B = some z → xmJ p l e R s m args below meth c D ks b nL Q w cells slots (pc + 3) lv st) : xmJ p l e R s m args below meth c D ks b nL Q w cells slots pc lv (xI x :: st) := by
  refine xj_if_eq hC hdg ht (fun h => kt ?_) (fun h => kf ?_)
  · rw [if_pos h] at hf; exact hf
  · rw [if_neg h] at hf; exact hf
theorem xj_if_ne (hC : xmC p s m args meth c D ks b nL cc own) {x : Int32} {off : Int} {tgt : Nat} (hdg : decode cc pc = .ok (.ifCond .ne off, 3)) (ht : (pc : Int) + off = (tgt : Int)) (kt : ¬ x = 0 → xmJ p l e R s m args below meth c D ks b nL Q w cells slots tgt lv st) (kf : x = 0 → xmJ p l e R s m args below meth c D ks b nL Q w cells slots (pc + 3) lv st) : xmJ p l e R s m args below meth c D ks b nL Q w cells slots pc lv (xI x :: st) := by
  intro H locs ls hP hS hl
  exact lv_if_ne hC.hx hC.hb hdg ht (fun h => kt h H locs ls hP hS hl) (fun h => kf h H locs ls hP hS hl)
theorem xb_if_ne (hC : xmC p s m args meth c D ks b nL cc own) {x : Int32} {off : Int} {tgt : Nat} {α : Type} {A B : Option α} {z : α} (hdg : decode cc pc = .ok (.ifCond .ne off, 3)) (ht : (pc : Int) + off = (tgt : Int)) (hf : (if x = 0 then A else B) = some z) (kt : B = some z → xmJ p l e R s m args below meth c D ks b nL Q w cells slots tgt lv st) (kf : A = some z → xmJ p l e R s m args below meth c D ks b nL Q w cells slots (pc + 3) lv st) : xmJ p l e R s m args below meth c D ks b nL Q w cells slots pc lv (xI x :: st) := by
  refine xj_if_ne hC hdg ht (fun h => kt ?_) (fun h => kf ?_)
  · rw [if_neg h] at hf; exact hf
  · rw [if_pos h] at hf; exact hf
theorem xj_if_lt (hC : xmC p s m args meth c D ks b nL cc own) {x : Int32} {off : Int} {tgt : Nat} (hdg : decode cc pc = .ok (.ifCond .lt off, 3)) (ht : (pc : Int) + off = (tgt : Int)) (kt : x < 0 → xmJ p l e R s m args below meth c D ks b nL Q w cells slots tgt lv st) (kf : ¬ x < 0 → xmJ p l e R s m args below meth c D ks b nL Q w cells slots (pc + 3) lv st) : xmJ p l e R s m args below meth c D ks b nL Q w cells slots pc lv (xI x :: st) := by
  intro H locs ls hP hS hl
  exact lv_if_lt hC.hx hC.hb hdg ht (fun h => kt h H locs ls hP hS hl) (fun h => kf h H locs ls hP hS hl)
theorem xb_if_lt (hC : xmC p s m args meth c D ks b nL cc own) {x : Int32} {off : Int} {tgt : Nat} {α : Type} {A B : Option α} {z : α} (hdg : decode cc pc = .ok (.ifCond .lt off, 3)) (ht : (pc : Int) + off = (tgt : Int)) (hf : (if x < 0 then A else B) = some z) (kt : A = some z → xmJ p l e R s m args below meth c D ks b nL Q w cells slots tgt lv st) (kf : B = some z → xmJ p l e R s m args below meth c D ks b nL Q w cells slots (pc + 3) lv st) : xmJ p l e R s m args below meth c D ks b nL Q w cells slots pc lv (xI x :: st) := by
  refine xj_if_lt hC hdg ht (fun h => kt ?_) (fun h => kf ?_)
  · rw [if_pos h] at hf; exact hf
  · rw [if_neg h] at hf; exact hf
theorem xj_if_ge (hC : xmC p s m args meth c D ks b nL cc own) {x : Int32} {off : Int} {tgt : Nat} (hdg : decode cc pc = .ok (.ifCond .ge off, 3)) (ht : (pc : Int) + off = (tgt : Int)) (kt : 0 ≤ x → xmJ p l e R s m args below meth c D ks b nL Q w cells slots tgt lv st) (kf : ¬ 0 ≤ x → xmJ p l e R s m args below meth c D ks b nL Q w cells slots (pc + 3) lv st) : xmJ p l e R s m args below meth c D ks b nL Q w cells slots pc lv (xI x :: st) := by
  intro H locs ls hP hS hl
  exact lv_if_ge hC.hx hC.hb hdg ht (fun h => kt h H locs ls hP hS hl) (fun h => kf h H locs ls hP hS hl)
theorem xb_if_ge (hC : xmC p s m args meth c D ks b nL cc own) {x : Int32} {off : Int} {tgt : Nat} {α : Type} {A B : Option α} {z : α} (hdg : decode cc pc = .ok (.ifCond .ge off, 3)) (ht : (pc : Int) + off = (tgt : Int)) (hf : (if 0 ≤ x then A else B) = some z) (kt : A = some z → xmJ p l e R s m args below meth c D ks b nL Q w cells slots tgt lv st) (kf : B = some z → xmJ p l e R s m args below meth c D ks b nL Q w cells slots (pc + 3) lv st) : xmJ p l e R s m args below meth c D ks b nL Q w cells slots pc lv (xI x :: st) := by
  refine xj_if_ge hC hdg ht (fun h => kt ?_) (fun h => kf ?_)
  · rw [if_pos h] at hf; exact hf
  · rw [if_neg h] at hf; exact hf
theorem xj_if_gt (hC : xmC p s m args meth c D ks b nL cc own) {x : Int32} {off : Int} {tgt : Nat} (hdg : decode cc pc = .ok (.ifCond .gt off, 3)) (ht : (pc : Int) + off = (tgt : Int)) (kt : 0 < x → xmJ p l e R s m args below meth c D ks b nL Q w cells slots tgt lv st) (kf : ¬ 0 < x → xmJ p l e R s m args below meth c D ks b nL Q w cells slots (pc + 3) lv st) : xmJ p l e R s m args below meth c D ks b nL Q w cells slots pc lv (xI x :: st) := by
  intro H locs ls hP hS hl
  exact lv_if_gt hC.hx hC.hb hdg ht (fun h => kt h H locs ls hP hS hl) (fun h => kf h H locs ls hP hS hl)
theorem xb_if_gt (hC : xmC p s m args meth c D ks b nL cc own) {x : Int32} {off : Int} {tgt : Nat} {α : Type} {A B : Option α} {z : α} (hdg : decode cc pc = .ok (.ifCond .gt off, 3)) (ht : (pc : Int) + off = (tgt : Int)) (hf : (if 0 < x then A else B) = some z) (kt : A = some z → xmJ p l e R s m args below meth c D ks b nL Q w cells slots tgt lv st) (kf : B = some z → xmJ p l e R s m args below meth c D ks b nL Q w cells slots (pc + 3) lv st) : xmJ p l e R s m args below meth c D ks b nL Q w cells slots pc lv (xI x :: st) := by
  refine xj_if_gt hC hdg ht (fun h => kt ?_) (fun h => kf ?_)
  · rw [if_pos h] at hf; exact hf
  · rw [if_neg h] at hf; exact hf
theorem xj_if_le (hC : xmC p s m args meth c D ks b nL cc own) {x : Int32} {off : Int} {tgt : Nat} (hdg : decode cc pc = .ok (.ifCond .le off, 3)) (ht : (pc : Int) + off = (tgt : Int)) (kt : x ≤ 0 → xmJ p l e R s m args below meth c D ks b nL Q w cells slots tgt lv st) (kf : ¬ x ≤ 0 → xmJ p l e R s m args below meth c D ks b nL Q w cells slots (pc + 3) lv st) : xmJ p l e R s m args below meth c D ks b nL Q w cells slots pc lv (xI x :: st) := by
  intro H locs ls hP hS hl
  exact lv_if_le hC.hx hC.hb hdg ht (fun h => kt h H locs ls hP hS hl) (fun h => kf h H locs ls hP hS hl)
theorem xb_if_le (hC : xmC p s m args meth c D ks b nL cc own) {x : Int32} {off : Int} {tgt : Nat} {α : Type} {A B : Option α} {z : α} (hdg : decode cc pc = .ok (.ifCond .le off, 3)) (ht : (pc : Int) + off = (tgt : Int)) (hf : (if x ≤ 0 then A else B) = some z) (kt : A = some z → xmJ p l e R s m args below meth c D ks b nL Q w cells slots tgt lv st) (kf : B = some z → xmJ p l e R s m args below meth c D ks b nL Q w cells slots (pc + 3) lv st) : xmJ p l e R s m args below meth c D ks b nL Q w cells slots pc lv (xI x :: st) := by
  refine xj_if_le hC hdg ht (fun h => kt ?_) (fun h => kf ?_)
  · rw [if_pos h] at hf; exact hf
  · rw [if_neg h] at hf; exact hf
theorem xj_ic_eq (hC : xmC p s m args meth c D ks b nL cc own) {x y : Int32} {off : Int} {tgt : Nat} (hdg : decode cc pc = .ok (.if_icmp .eq off, 3)) (ht : (pc : Int) + off = (tgt : Int)) (kt : x = y → xmJ p l e R s m args below meth c D ks b nL Q w cells slots tgt lv st) (kf : ¬ x = y → xmJ p l e R s m args below meth c D ks b nL Q w cells slots (pc + 3) lv st) : xmJ p l e R s m args below meth c D ks b nL Q w cells slots pc lv (xI y :: xI x :: st) := by
  intro H locs ls hP hS hl
  exact lv_icmp_eq hC.hx hC.hb hdg ht (fun h => kt h H locs ls hP hS hl) (fun h => kf h H locs ls hP hS hl)
theorem xb_ic_eq (hC : xmC p s m args meth c D ks b nL cc own) {x y : Int32} {off : Int} {tgt : Nat} {α : Type} {A B : Option α} {z : α} (hdg : decode cc pc = .ok (.if_icmp .eq off, 3)) (ht : (pc : Int) + off = (tgt : Int)) (hf : (if x = y then A else B) = some z) (kt : A = some z → xmJ p l e R s m args below meth c D ks b nL Q w cells slots tgt lv st) (kf : B = some z → xmJ p l e R s m args below meth c D ks b nL Q w cells slots (pc + 3) lv st) : xmJ p l e R s m args below meth c D ks b nL Q w cells slots pc lv (xI y :: xI x :: st) := by
  refine xj_ic_eq hC hdg ht (fun h => kt ?_) (fun h => kf ?_)
  · rw [if_pos h] at hf; exact hf
  · rw [if_neg h] at hf; exact hf
theorem xj_ic_ne (hC : xmC p s m args meth c D ks b nL cc own) {x y : Int32} {off : Int} {tgt : Nat} (hdg : decode cc pc = .ok (.if_icmp .ne off, 3)) (ht : (pc : Int) + off = (tgt : Int)) (kt : ¬ x = y → xmJ p l e R s m args below meth c D ks b nL Q w cells slots tgt lv st) (kf : x = y → xmJ p l e R s m args below meth c D ks b nL Q w cells slots (pc + 3) lv st) : xmJ p l e R s m args below meth c D ks b nL Q w cells slots pc lv (xI y :: xI x :: st) := by
  intro H locs ls hP hS hl
  exact lv_icmp_ne hC.hx hC.hb hdg ht (fun h => kt h H locs ls hP hS hl) (fun h => kf h H locs ls hP hS hl)
theorem xb_ic_ne (hC : xmC p s m args meth c D ks b nL cc own) {x y : Int32} {off : Int} {tgt : Nat} {α : Type} {A B : Option α} {z : α} (hdg : decode cc pc = .ok (.if_icmp .ne off, 3)) (ht : (pc : Int) + off = (tgt : Int)) (hf : (if x = y then A else B) = some z) (kt : B = some z → xmJ p l e R s m args below meth c D ks b nL Q w cells slots tgt lv st) (kf : A = some z → xmJ p l e R s m args below meth c D ks b nL Q w cells slots (pc + 3) lv st) : xmJ p l e R s m args below meth c D ks b nL Q w cells slots pc lv (xI y :: xI x :: st) := by
  refine xj_ic_ne hC hdg ht (fun h => kt ?_) (fun h => kf ?_)
  · rw [if_neg h] at hf; exact hf
  · rw [if_pos h] at hf; exact hf
theorem xj_ic_lt (hC : xmC p s m args meth c D ks b nL cc own) {x y : Int32} {off : Int} {tgt : Nat} (hdg : decode cc pc = .ok (.if_icmp .lt off, 3)) (ht : (pc : Int) + off = (tgt : Int)) (kt : x < y → xmJ p l e R s m args below meth c D ks b nL Q w cells slots tgt lv st) (kf : ¬ x < y → xmJ p l e R s m args below meth c D ks b nL Q w cells slots (pc + 3) lv st) : xmJ p l e R s m args below meth c D ks b nL Q w cells slots pc lv (xI y :: xI x :: st) := by
  intro H locs ls hP hS hl
  exact lv_icmp_lt hC.hx hC.hb hdg ht (fun h => kt h H locs ls hP hS hl) (fun h => kf h H locs ls hP hS hl)
theorem xb_ic_lt (hC : xmC p s m args meth c D ks b nL cc own) {x y : Int32} {off : Int} {tgt : Nat} {α : Type} {A B : Option α} {z : α} (hdg : decode cc pc = .ok (.if_icmp .lt off, 3)) (ht : (pc : Int) + off = (tgt : Int)) (hf : (if x < y then A else B) = some z) (kt : A = some z → xmJ p l e R s m args below meth c D ks b nL Q w cells slots tgt lv st) (kf : B = some z → xmJ p l e R s m args below meth c D ks b nL Q w cells slots (pc + 3) lv st) : xmJ p l e R s m args below meth c D ks b nL Q w cells slots pc lv (xI y :: xI x :: st) := by
  refine xj_ic_lt hC hdg ht (fun h => kt ?_) (fun h => kf ?_)
  · rw [if_pos h] at hf; exact hf
  · rw [if_neg h] at hf; exact hf
theorem xj_ic_ge (hC : xmC p s m args meth c D ks b nL cc own) {x y : Int32} {off : Int} {tgt : Nat} (hdg : decode cc pc = .ok (.if_icmp .ge off, 3)) (ht : (pc : Int) + off = (tgt : Int)) (kt : y ≤ x → xmJ p l e R s m args below meth c D ks b nL Q w cells slots tgt lv st) (kf : ¬ y ≤ x → xmJ p l e R s m args below meth c D ks b nL Q w cells slots (pc + 3) lv st) : xmJ p l e R s m args below meth c D ks b nL Q w cells slots pc lv (xI y :: xI x :: st) := by
  intro H locs ls hP hS hl
  exact lv_icmp_ge hC.hx hC.hb hdg ht (fun h => kt h H locs ls hP hS hl) (fun h => kf h H locs ls hP hS hl)
theorem xb_ic_ge (hC : xmC p s m args meth c D ks b nL cc own) {x y : Int32} {off : Int} {tgt : Nat} {α : Type} {A B : Option α} {z : α} (hdg : decode cc pc = .ok (.if_icmp .ge off, 3)) (ht : (pc : Int) + off = (tgt : Int)) (hf : (if y ≤ x then A else B) = some z) (kt : A = some z → xmJ p l e R s m args below meth c D ks b nL Q w cells slots tgt lv st) (kf : B = some z → xmJ p l e R s m args below meth c D ks b nL Q w cells slots (pc + 3) lv st) : xmJ p l e R s m args below meth c D ks b nL Q w cells slots pc lv (xI y :: xI x :: st) := by
  refine xj_ic_ge hC hdg ht (fun h => kt ?_) (fun h => kf ?_)
  · rw [if_pos h] at hf; exact hf
  · rw [if_neg h] at hf; exact hf
theorem xj_ic_gt (hC : xmC p s m args meth c D ks b nL cc own) {x y : Int32} {off : Int} {tgt : Nat} (hdg : decode cc pc = .ok (.if_icmp .gt off, 3)) (ht : (pc : Int) + off = (tgt : Int)) (kt : y < x → xmJ p l e R s m args below meth c D ks b nL Q w cells slots tgt lv st) (kf : ¬ y < x → xmJ p l e R s m args below meth c D ks b nL Q w cells slots (pc + 3) lv st) : xmJ p l e R s m args below meth c D ks b nL Q w cells slots pc lv (xI y :: xI x :: st) := by
  intro H locs ls hP hS hl
  exact lv_icmp_gt hC.hx hC.hb hdg ht (fun h => kt h H locs ls hP hS hl) (fun h => kf h H locs ls hP hS hl)
theorem xb_ic_gt (hC : xmC p s m args meth c D ks b nL cc own) {x y : Int32} {off : Int} {tgt : Nat} {α : Type} {A B : Option α} {z : α} (hdg : decode cc pc = .ok (.if_icmp .gt off, 3)) (ht : (pc : Int) + off = (tgt : Int)) (hf : (if y < x then A else B) = some z) (kt : A = some z → xmJ p l e R s m args below meth c D ks b nL Q w cells slots tgt lv st) (kf : B = some z → xmJ p l e R s m args below meth c D ks b nL Q w cells slots (pc + 3) lv st) : xmJ p l e R s m args below meth c D ks b nL Q w cells slots pc lv (xI y :: xI x :: st) := by
  refine xj_ic_gt hC hdg ht (fun h => kt ?_) (fun h => kf ?_)
  · rw [if_pos h] at hf; exact hf
  · rw [if_neg h] at hf; exact hf
theorem xj_ic_le (hC : xmC p s m args meth c D ks b nL cc own) {x y : Int32} {off : Int} {tgt : Nat} (hdg : decode cc pc = .ok (.if_icmp .le off, 3)) (ht : (pc : Int) + off = (tgt : Int)) (kt : x ≤ y → xmJ p l e R s m args below meth c D ks b nL Q w cells slots tgt lv st) (kf : ¬ x ≤ y → xmJ p l e R s m args below meth c D ks b nL Q w cells slots (pc + 3) lv st) : xmJ p l e R s m args below meth c D ks b nL Q w cells slots pc lv (xI y :: xI x :: st) := by
  intro H locs ls hP hS hl
  exact lv_icmp_le hC.hx hC.hb hdg ht (fun h => kt h H locs ls hP hS hl) (fun h => kf h H locs ls hP hS hl)
theorem xb_ic_le (hC : xmC p s m args meth c D ks b nL cc own) {x y : Int32} {off : Int} {tgt : Nat} {α : Type} {A B : Option α} {z : α} (hdg : decode cc pc = .ok (.if_icmp .le off, 3)) (ht : (pc : Int) + off = (tgt : Int)) (hf : (if x ≤ y then A else B) = some z) (kt : A = some z → xmJ p l e R s m args below meth c D ks b nL Q w cells slots tgt lv st) (kf : B = some z → xmJ p l e R s m args below meth c D ks b nL Q w cells slots (pc + 3) lv st) : xmJ p l e R s m args below meth c D ks b nL Q w cells slots pc lv (xI y :: xI x :: st) := by
  refine xj_ic_le hC hdg ht (fun h => kt ?_) (fun h => kf ?_)
  · rw [if_pos h] at hf; exact hf
  · rw [if_neg h] at hf; exact hf
theorem xb_ifnull (hC : xmC p s m args meth c D ks b nL cc own) {r : Option Nat} {off : Int} {tgt : Nat} {α : Type} {A B : Option α} {z : α} (hdg : decode cc pc = .ok (.ifnull off, 3)) (ht : (pc : Int) + off = (tgt : Int)) (hf : (if r = none then A else B) = some z) (kt : A = some z → xmJ p l e R s m args below meth c D ks b nL Q w cells slots tgt lv st) (kf : B = some z → xmJ p l e R s m args below meth c D ks b nL Q w cells slots (pc + 3) lv st) : xmJ p l e R s m args below meth c D ks b nL Q w cells slots pc lv (xR r :: st) := by
  intro H locs ls hP hS hl
  cases r with
  | none => rw [if_pos rfl] at hf; exact lv_ifnullN hC.hx hC.hb hdg ht (kt hf H locs ls hP hS hl)
  | some k => rw [if_neg (by simp)] at hf; exact lv_ifnull hC.hx hC.hb hdg (kf hf H locs ls hP hS hl)
theorem xb_ifnonnull (hC : xmC p s m args meth c D ks b nL cc own) {r : Option Nat} {off : Int} {tgt : Nat} {α : Type} {A B : Option α} {z : α} (hdg : decode cc pc = .ok (.ifnonnull off, 3)) (ht : (pc : Int) + off = (tgt : Int)) (hf : (if r = none then A else B) = some z) (kt : B = some z → xmJ p l e R s m args below meth c D ks b nL Q w cells slots tgt lv st) (kf : A = some z → xmJ p l e R s m args below meth c D ks b nL Q w cells slots (pc + 3) lv st) : xmJ p l e R s m args below meth c D ks b nL Q w cells slots pc lv (xR r :: st) := by
  intro H locs ls hP hS hl
  cases r with
  | none => rw [if_pos rfl] at hf; exact lv_ifnonnullN hC.hx hC.hb hdg (kf hf H locs ls hP hS hl)
  | some k => rw [if_neg (by simp)] at hf; exact lv_ifnonnull hC.hx hC.hb hdg ht (kt hf H locs ls hP hS hl)
theorem xj_dia {cnd : Prop} [Decidable cnd] {x y : Int32} {pc2 : Nat} {st2 : List xmV} (h1 : cnd → xmJ p l e R s m args below meth c D ks b nL Q w cells slots pc2 lv (xI x :: st2) → xmJ p l e R s m args below meth c D ks b nL Q w cells slots pc lv st) (h2 : ¬ cnd → xmJ p l e R s m args below meth c D ks b nL Q w cells slots pc2 lv (xI y :: st2) → xmJ p l e R s m args below meth c D ks b nL Q w cells slots pc lv st) (kk : xmJ p l e R s m args below meth c D ks b nL Q w cells slots pc2 lv (xI (if cnd then x else y) :: st2)) : xmJ p l e R s m args below meth c D ks b nL Q w cells slots pc lv st := by
  by_cases h : cnd
  · rw [if_pos h] at kk; exact h1 h kk
  · rw [if_neg h] at kk; exact h2 h kk
theorem xj_diaN {r : Option Nat} {x y : Int32} {pc2 : Nat} {st2 : List xmV} (h1 : r = none → xmJ p l e R s m args below meth c D ks b nL Q w cells slots pc2 lv (xI x :: st2) → xmJ p l e R s m args below meth c D ks b nL Q w cells slots pc lv st) (h2 : ¬ r = none → xmJ p l e R s m args below meth c D ks b nL Q w cells slots pc2 lv (xI y :: st2) → xmJ p l e R s m args below meth c D ks b nL Q w cells slots pc lv st) (kk : xmJ p l e R s m args below meth c D ks b nL Q w cells slots pc2 lv (xI (if r = none then x else y) :: st2)) : xmJ p l e R s m args below meth c D ks b nL Q w cells slots pc lv st := by
  by_cases h : r = none
  · rw [if_pos h] at kk; exact h1 h kk
  · rw [if_neg h] at kk; exact h2 h kk
theorem xb_case {x v : Int32} {α : Type} {A B : Option α} {z : α} {Z : Prop} (hf : (if x = v then A else B) = some z) (h1 : x = v → A = some z → Z) (h2 : ¬ x = v → B = some z → Z) : Z := by
  by_cases h : x = v
  · rw [if_pos h] at hf; exact h1 h hf
  · rw [if_neg h] at hf; exact h2 h hf
theorem xj_tableIn (hC : xmC p s m args meth c D ks b nL cc own) {dflt lo hi : Int} {offs : Array Int} {len : Nat} {x v : Int32} (off : Int) {tgt : Nat} (hdg : decode cc pc = .ok (.tableswitch dflt lo hi offs, len)) (hx : x = v) (h1 : ¬ v.toInt < lo) (h2 : ¬ hi < v.toInt) (ho : offs[(v.toInt - lo).toNat]? = some off) (ht : (pc : Int) + off = (tgt : Int)) (kk : xmJ p l e R s m args below meth c D ks b nL Q w cells slots tgt lv st) : xmJ p l e R s m args below meth c D ks b nL Q w cells slots pc lv (xI x :: st) := by
  intro H locs ls hP hS hl
  subst hx
  exact lv_tableIn hC.hx hC.hb hdg h1 h2 ho ht (kk H locs ls hP hS hl)
theorem xj_tableOut (hC : xmC p s m args meth c D ks b nL cc own) {dflt lo hi : Int} {offs : Array Int} {len : Nat} {x : Int32} {tgt : Nat} (hdg : decode cc pc = .ok (.tableswitch dflt lo hi offs, len)) (h : x.toInt < lo ∨ hi < x.toInt) (ht : (pc : Int) + dflt = (tgt : Int)) (kk : xmJ p l e R s m args below meth c D ks b nL Q w cells slots tgt lv st) : xmJ p l e R s m args below meth c D ks b nL Q w cells slots pc lv (xI x :: st) := by
  intro H locs ls hP hS hl
  exact lv_tableOut hC.hx hC.hb hdg h ht (kk H locs ls hP hS hl)
theorem xj_lookup (hC : xmC p s m args meth c D ks b nL cc own) {dflt : Int} {ps : Array (Int × Int)} {len : Nat} {x : Int32} {off : Int} {tgt : Nat} (hdg : decode cc pc = .ok (.lookupswitch dflt ps, len)) (hp : (ps.toList.zip (ps.toList.drop 1)).all (fun (a, next) => a.1 < next.1) = true) (ho : Op.lookupswitch.offset ps.toList dflt x.toInt = off) (ht : (pc : Int) + off = (tgt : Int)) (kk : xmJ p l e R s m args below meth c D ks b nL Q w cells slots tgt lv st) : xmJ p l e R s m args below meth c D ks b nL Q w cells slots pc lv (xI x :: st) := by
  intro H locs ls hP hS hl
  exact lv_lookup hC.hx hC.hb hdg hp ho ht (kk H locs ls hP hS hl)
theorem xb_getI (hC : xmC p s m args meth c D ks b nL cc own) {α : Type} {z : α} {r : Option Nat} {F : Int32 → Option α} {C : String} {T : u_T} {N index : Nat} {ty : Nat → FieldType} (ci k : Nat) (hcl : xmCL ci C T N ty) (hk : k < N) (hlk : Cond.fieldLink own index (T k).1 (T k).2.1 (T k).2.2.1 ∈ xmTs) (hdg : decode cc pc = .ok (.getfield index, 3)) (hf : (xmgI w r ci k).bind F = some z) (kk : ∀ x : Int32, F x = some z → xmJ p l e R s m args below meth c D ks b nL Q w cells slots (pc + 3) lv (xI x :: st)) : xmJ p l e R s m args below meth c D ks b nL Q w cells slots pc lv (xR r :: st) := by
  obtain ⟨x, hx, hf2⟩ := xm_bind hf
  obtain ⟨a, fs, rfl, h1, h2⟩ := xmgI_at hx
  intro H locs ls hP hS hl
  refine va_get hC.hx hC.hb hC.ht hcl.2.1 hC.ho hC.hk.1 hP.1 a (xmws_get h1) hcl.1 k hk (hC.ht _ hlk) (fun _ h => h) (v := xmcv b (xI x)) (by rw [List.getElem?_map, h2]; rfl) hdg (kk x hf2 H locs ls hP hS hl)
theorem xb_getL (hC : xmC p s m args meth c D ks b nL cc own) {α : Type} {z : α} {r : Option Nat} {F : Int64 → Option α} {C : String} {T : u_T} {N index : Nat} {ty : Nat → FieldType} (ci k : Nat) (hcl : xmCL ci C T N ty) (hk : k < N) (hlk : Cond.fieldLink own index (T k).1 (T k).2.1 (T k).2.2.1 ∈ xmTs) (hdg : decode cc pc = .ok (.getfield index, 3)) (hf : (xmgL w r ci k).bind F = some z) (kk : ∀ x : Int64, F x = some z → xmJ p l e R s m args below meth c D ks b nL Q w cells slots (pc + 3) lv (xL x :: st)) : xmJ p l e R s m args below meth c D ks b nL Q w cells slots pc lv (xR r :: st) := by
  obtain ⟨x, hx, hf2⟩ := xm_bind hf
  obtain ⟨a, fs, rfl, h1, h2⟩ := xmgL_at hx
  intro H locs ls hP hS hl
  refine va_get hC.hx hC.hb hC.ht hcl.2.1 hC.ho hC.hk.1 hP.1 a (xmws_get h1) hcl.1 k hk (hC.ht _ hlk) (fun _ h => h) (v := xmcv b (xL x)) (by rw [List.getElem?_map, h2]; rfl) hdg (kk x hf2 H locs ls hP hS hl)
theorem xb_getR (hC : xmC p s m args meth c D ks b nL cc own) {α : Type} {z : α} {r : Option Nat} {F : (Option Nat) → Option α} {C : String} {T : u_T} {N index : Nat} {ty : Nat → FieldType} (ci k : Nat) (hcl : xmCL ci C T N ty) (hk : k < N) (hlk : Cond.fieldLink own index (T k).1 (T k).2.1 (T k).2.2.1 ∈ xmTs) (hdg : decode cc pc = .ok (.getfield index, 3)) (hf : (xmgR w r ci k).bind F = some z) (kk : ∀ x : (Option Nat), F x = some z → xmJ p l e R s m args below meth c D ks b nL Q w cells slots (pc + 3) lv (xR x :: st)) : xmJ p l e R s m args below meth c D ks b nL Q w cells slots pc lv (xR r :: st) := by
  obtain ⟨x, hx, hf2⟩ := xm_bind hf
  obtain ⟨a, fs, rfl, h1, h2⟩ := xmgR_at hx
  intro H locs ls hP hS hl
  refine va_get hC.hx hC.hb hC.ht hcl.2.1 hC.ho hC.hk.1 hP.1 a (xmws_get h1) hcl.1 k hk (hC.ht _ hlk) (fun _ h => h) (v := xmcv b (xR x)) (by rw [List.getElem?_map, h2]; rfl) hdg (kk x hf2 H locs ls hP hS hl)
/-- what a field of a type may hold -/
def xmfit (ty : FieldType) (v : xmV) : Prop := ∀ b : Nat, narrow ty (xmcv b v) = xmcv b v ∧ fits ty (xmcv b v) = true
theorem xmfit_i (x : Int32) : xmfit .int (xI x) := fun _ => ⟨rfl, rfl⟩
theorem xmfit_l (x : Int64) : xmfit .long (xL x) := fun _ => ⟨rfl, rfl⟩
theorem xmfit_z {x : Int32} (h : x = 0 ∨ x = 1) : xmfit .boolean (xI x) := by
  intro b
  rcases h with rfl | rfl
  · exact ⟨by show narrow .boolean (.int 0) = .int 0; decide +kernel, by show fits .boolean (.int 0) = true; decide +kernel⟩
  · exact ⟨by show narrow .boolean (.int 1) = .int 1; decide +kernel, by show fits .boolean (.int 1) = true; decide +kernel⟩
theorem xmfit_q (C : String) (r : Option Nat) : xmfit (.object C) (xR r) := by
  intro b
  cases r with
  | none => exact ⟨rfl, rfl⟩
  | some k => exact ⟨rfl, rfl⟩
theorem xmfit_a (t : FieldType) (r : Option Nat) : xmfit (.array t) (xR r) := by
  intro b
  cases r with
  | none => exact ⟨rfl, rfl⟩
  | some k => exact ⟨rfl, rfl⟩
theorem xb_put (hC : xmC p s m args meth c D ks b nL cc own) {α : Type} {z : α} {r : Option Nat} {v : xmV} {F : xmW → Option α} {C : String} {T : u_T} {N index : Nat} {ty : Nat → FieldType} (ci k : Nat) (hcl : xmCL ci C T N ty) (hk : k < N) (hlk : Cond.fieldLink own index (T k).1 (T k).2.1 (T k).2.2.1 ∈ xmTs) (hfin : (T k).2.2.2 = false) (hv : xmfit (ty k) v) (hdg : decode cc pc = .ok (.putfield index, 3)) (hf : (xmput w r ci k v).bind F = some z) (kk : ∀ w2 : xmW, F w2 = some z → xmJ p l e R s m args below meth c D ks b nL Q w2 cells slots (pc + 3) lv st) : xmJ p l e R s m args below meth c D ks b nL Q w cells slots pc lv (v :: xR r :: st) := by
  obtain ⟨w2, hw, hf2⟩ := xm_bind hf
  obtain ⟨a, fs, rfl, h1, hlen, hw2⟩ := xmput_at hw
  intro H locs ls hP hS hl
  have hts := hC.ht
  have hin := hcl.2.1
  have hK := hC.hk.1
  have hc := hcl.1
  have he := xmws_get (ks := ks) (b := b) h1
  have hap := va_apart (own := own) hts hin ty hcl.2.2.1 hcl.2.2.2 hK hc
  obtain ⟨r, h1', cell, q1, q2, q3, q4⟩ := hP.1 a _ he
  have hr : r = (C, T, N) := Option.some.inj (h1'.symm.trans hc)
  subst hr
  obtain ⟨hS1, hfc, kC, hkC, hkind⟩ := hK.1 ci _ hc
  obtain ⟨cf, kf, fi, f, hi, hsl⟩ := hS1 k hk
  have hlay := hts _ (hin _ (u_in_lay hk))
  unfold u_lay at hlay
  rw [if_neg (by rw [hfin]; decide)] at hlay
  have hst := (u_facts hfc hkC (u_lays hts hin hk) hi).1
  have h6 := u_store hfc hkC hkind hlay hi (hcl.2.2.1 k hk) (hv b).1 (hv b).2
  refine W.putK hC.hx hC.hb (f := f) ⟨hC.ho, hts _ hlk, ⟨_, _, _, hi⟩, hst⟩ (by rw [q2]; exact h6) q1 q3 (by rw [hsl]; exact k2_hasslot (q4 k hk)) rfl rfl hdg fun H' e1 e2 e3 => ?_
  rw [hsl] at e1 ⊢
  have hlm : k < (fs.map (xmcv b)).length := by rw [List.length_map]; exact hlen
  have hat : va_at D vwCl (b + a, (Sum.inr (ci, (fs.map (xmcv b)).set k (xmcv b v)) : va_E)) H' := ⟨_, hc, t_OB.to (V := updV (vp_V (fs.map (xmcv b))) k (xmcv b v)) ⟨_, e1, q2, q3, t_set q4 hap hk (xmcv b v)⟩ (fun j _ => vp_updV_set hlm (xmcv b v) j)⟩
  have hP2 := hP.1.set xm_D he hat e3
  refine kk w2 hf2 H' _ ls ⟨?_, ?_⟩ (hS.put e2 e3 (xm_D.2 a _ he)) hl
  · rw [hw2, ← xmws_set]
    have hq : (fs.map (xmcv b)).set k (xmcv b v) = (fs.set k v).map (xmcv b) := by rw [List.map_set]
    rw [hq] at hP2
    exact hP2
  · rw [hw2, List.length_set, e2]; exact hP.2
theorem xb_putF (hC : xmC p s m args meth c D ks b nL cc own) {α : Type} {z : α} {r : Option Nat} {v : xmV} {F : xmW → Option α} {C : String} {T : u_T} {N index : Nat} {ty : Nat → FieldType} (ci k : Nat) (hcl : xmCL ci C T N ty) (hk : k < N) (hlk : Cond.fieldLink own index (T k).1 (T k).2.1 (T k).2.2.1 ∈ xmTs) (hfin : (T k).2.2.2 = true) (hin2 : meth.name = "<init>") (hdecl : (T k).1 = own) (hv : xmfit (ty k) v) (hdg : decode cc pc = .ok (.putfield index, 3)) (hf : (xmput w r ci k v).bind F = some z) (kk : ∀ w2 : xmW, F w2 = some z → xmJ p l e R s m args below meth c D ks b nL Q w2 cells slots (pc + 3) lv st) : xmJ p l e R s m args below meth c D ks b nL Q w cells slots pc lv (v :: xR r :: st) := by
  obtain ⟨w2, hw, hf2⟩ := xm_bind hf
  obtain ⟨a, fs, rfl, h1, hlen, hw2⟩ := xmput_at hw
  intro H locs ls hP hS hl
  have hts := hC.ht
  have hin := hcl.2.1
  have hK := hC.hk.1
  have hc := hcl.1
  have he := xmws_get (ks := ks) (b := b) h1
  have hap := va_apart (own := own) hts hin ty hcl.2.2.1 hcl.2.2.2 hK hc
  obtain ⟨r, h1', cell, q1, q2, q3, q4⟩ := hP.1 a _ he
  have hr : r = (C, T, N) := Option.some.inj (h1'.symm.trans hc)
  subst hr
  obtain ⟨hS1, hfc, kC, hkC, hkind⟩ := hK.1 ci _ hc
  obtain ⟨cf, kf, fi, f, hi, hsl⟩ := hS1 k hk
  have hlay := hts _ (hin _ (u_in_lay hk))
  unfold u_lay at hlay
  rw [if_pos hfin] at hlay
  have hst := (u_facts hfc hkC (u_lays hts hin hk) hi).1
  have hcf : m.cls = cf := by
    obtain ⟨_, _, c', _, _, _, -, -, hf', -, -, -, hown2, -⟩ := Cond.laysFinal_spec hlay
    have e1 : c' = cf := by have := hi.symm.trans hf'; simp at this; exact this.1.symm
    rw [hdecl] at hown2
    rw [← e1]; exact Option.some.inj (hC.ho.symm.trans hown2)
  have h6 := u_fits hfc hkC hkind (Or.inr hlay) hi (hcl.2.2.1 k hk) (hv b).1 (hv b).2
  refine W.putFinK hC.hx hC.hb hC.ho (hts _ hlk) hi hst hcf hin2 (by rw [q2]; exact h6) q1 q3 (by rw [hsl]; exact k2_hasslot (q4 k hk)) rfl rfl hdg fun H' e1 e2 e3 => ?_
  rw [hsl] at e1 ⊢
  have hlm : k < (fs.map (xmcv b)).length := by rw [List.length_map]; exact hlen
  have hat : va_at D vwCl (b + a, (Sum.inr (ci, (fs.map (xmcv b)).set k (xmcv b v)) : va_E)) H' := ⟨_, hc, t_OB.to (V := updV (vp_V (fs.map (xmcv b))) k (xmcv b v)) ⟨_, e1, q2, q3, t_set q4 hap hk (xmcv b v)⟩ (fun j _ => vp_updV_set hlm (xmcv b v) j)⟩
  have hP2 := hP.1.set xm_D he hat e3
  refine kk w2 hf2 H' _ ls ⟨?_, ?_⟩ (hS.put e2 e3 (xm_D.2 a _ he)) hl
  · rw [hw2, ← xmws_set]
    have hq : (fs.map (xmcv b)).set k (xmcv b v) = (fs.set k v).map (xmcv b) := by rw [List.map_set]
    rw [hq] at hP2
    exact hP2
  · rw [hw2, List.length_set, e2]; exact hP.2
theorem xb_iald (hC : xmC p s m args meth c D ks b nL cc own) {α : Type} {z : α} {r : Option Nat} {i : Int32} {F : Int32 → Option α} (hdg : decode cc pc = .ok (.iaload, 1)) (hf : (xmild w r 0 i).bind F = some z) (kk : ∀ x : Int32, F x = some z → xmJ p l e R s m args below meth c D ks b nL Q w cells slots (pc + 1) lv (xI x :: st)) : xmJ p l e R s m args below meth c D ks b nL Q w cells slots pc lv (xI i :: xR r :: st) := by
  obtain ⟨x, hx, hf2⟩ := xm_bind hf
  obtain ⟨a, n, f, rfl, h1, h2, h3⟩ := xmild_at hx
  subst h3
  intro H locs ls hP hS hl
  exact va_iald hC.hx hC.hb hC.hk.1 hP.1 a 0 (xmws_get h1) rfl h2 hdg (kk _ hf2 H locs ls hP hS hl)
theorem xb_zald (hC : xmC p s m args meth c D ks b nL cc own) {α : Type} {z : α} {r : Option Nat} {i : Int32} {F : Int32 → Option α} (hdg : decode cc pc = .ok (.baload, 1)) (hf : (xmild w r 1 i).bind F = some z) (kk : ∀ x : Int32, F x = some z → xmJ p l e R s m args below meth c D ks b nL Q w cells slots (pc + 1) lv (xI x :: st)) : xmJ p l e R s m args below meth c D ks b nL Q w cells slots pc lv (xI i :: xR r :: st) := by
  obtain ⟨x, hx, hf2⟩ := xm_bind hf
  obtain ⟨a, n, f, rfl, h1, h2, h3⟩ := xmild_at hx
  subst h3
  intro H locs ls hP hS hl
  exact va_zald hC.hx hC.hb hC.hk.1 hP.1 a 1 (xmws_get h1) rfl h2 hdg (kk _ hf2 H locs ls hP hS hl)
theorem xb_qald2 (hC : xmC p s m args meth c D ks b nL cc own) {α : Type} {z : α} {r : Option Nat} {i : Int32} {F : Option Nat → Option α} (hdg : decode cc pc = .ok (.aaload, 1)) (hf : (xmqld w r 2 i).bind F = some z) (kk : ∀ x : Option Nat, F x = some z → xmJ p l e R s m args below meth c D ks b nL Q w cells slots (pc + 1) lv (xR x :: st)) : xmJ p l e R s m args below meth c D ks b nL Q w cells slots pc lv (xI i :: xR r :: st) := by
  obtain ⟨x, hx, hf2⟩ := xm_bind hf
  obtain ⟨a, n, f, rfl, h1, h2, h3⟩ := xmqld_at hx
  subst h3
  intro H locs ls hP hS hl
  exact va_aldq hC.hx hC.hb hC.hk.1 hP.1 a 2 (xmws_get h1) rfl h2 hdg (kk _ hf2 H locs ls hP hS hl)
theorem xb_qald3 (hC : xmC p s m args meth c D ks b nL cc own) {α : Type} {z : α} {r : Option Nat} {i : Int32} {F : Option Nat → Option α} (hdg : decode cc pc = .ok (.aaload, 1)) (hf : (xmqld w r 3 i).bind F = some z) (kk : ∀ x : Option Nat, F x = some z → xmJ p l e R s m args below meth c D ks b nL Q w cells slots (pc + 1) lv (xR x :: st)) : xmJ p l e R s m args below meth c D ks b nL Q w cells slots pc lv (xI i :: xR r :: st) := by
  obtain ⟨x, hx, hf2⟩ := xm_bind hf
  obtain ⟨a, n, f, rfl, h1, h2, h3⟩ := xmqld_at hx
  subst h3
  intro H locs ls hP hS hl
  exact va_aldq hC.hx hC.hb hC.hk.1 hP.1 a 3 (xmws_get h1) rfl h2 hdg (kk _ hf2 H locs ls hP hS hl)
theorem xb_alen (hC : xmC p s m args meth c D ks b nL cc own) {α : Type} {z : α} {r : Option Nat} {F : Int32 → Option α} (hdg : decode cc pc = .ok (.arraylength, 1)) (hf : (xmlen w r 0).bind F = some z) (kk : ∀ x : Int32, F x = some z → xmJ p l e R s m args below meth c D ks b nL Q w cells slots (pc + 1) lv (xI x :: st)) : xmJ p l e R s m args below meth c D ks b nL Q w cells slots pc lv (xR r :: st) := by
  obtain ⟨x, hx, hf2⟩ := xm_bind hf
  obtain ⟨a, n, f, rfl, h1, h2⟩ := xmlen_at hx
  intro H locs ls hP hS hl
  exact va_alen hC.hx hC.hb hC.hk.1 hP.1 a 0 (xmws_get h1) rfl h2 hdg (kk _ hf2 H locs ls hP hS hl)
theorem xb_iast (hC : xmC p s m args meth c D ks b nL cc own) {α : Type} {z : α} {r : Option Nat} {i x : Int32} {F : xmW → Option α} (hdg : decode cc pc = .ok (.iastore, 1)) (hf : (xmist w r 0 i x).bind F = some z) (kk : ∀ w2 : xmW, F w2 = some z → xmJ p l e R s m args below meth c D ks b nL Q w2 cells slots (pc + 1) lv st) : xmJ p l e R s m args below meth c D ks b nL Q w cells slots pc lv (xI x :: xI i :: xR r :: st) := by
  obtain ⟨w2, hw, hf2⟩ := xm_bind hf
  obtain ⟨a, n, f, rfl, h1, hin, hw2⟩ := xmist_at hw
  intro H locs ls hP hS hl
  have ha := xmws_get (ks := ks) (b := b) h1
  refine W.iast hC.hx hC.hb (hP.1 a _ ha) ((hC.hk.1.2 0 _ rfl).1 n (fun j => .int (f j))) (fun q => by cases q) (by show ¬ (i < 0 ∨ (arrV _ _ _).slots.size ≤ _); rw [arrV_size]; exact hin) rfl rfl hdg fun H1 ee zz oq => ?_
  refine kk w2 hf2 H1 _ ls ⟨?_, ?_⟩ (hS.put zz oq (xm_D.2 a _ ha)) hl
  · rw [hw2, ← xmws_set]
    refine hP.1.set xm_D ha ?_ oq
    show H1[b + a]? = some (vp_cell _ _)
    rw [ee]
    rw [vp_cell_i, vp_cell_i, arrV_store]
    congr 2
    funext q
    by_cases hq : q = i.toNatClampNeg
    · subst hq
      simp [updV, upd]
    · simp [updV, upd, hq]
  · rw [hw2, List.length_set, zz]; exact hP.2
theorem xb_zast (hC : xmC p s m args meth c D ks b nL cc own) {α : Type} {z : α} {r : Option Nat} {i x : Int32} {F : xmW → Option α} (hdg : decode cc pc = .ok (.bastore, 1)) (hf : (xmist w r 1 i (vp_nar .boolean x)).bind F = some z) (kk : ∀ w2 : xmW, F w2 = some z → xmJ p l e R s m args below meth c D ks b nL Q w2 cells slots (pc + 1) lv st) : xmJ p l e R s m args below meth c D ks b nL Q w cells slots pc lv (xI x :: xI i :: xR r :: st) := by
  obtain ⟨w2, hw, hf2⟩ := xm_bind hf
  obtain ⟨a, n, f, rfl, h1, hin, hw2⟩ := xmist_at hw
  intro H locs ls hP hS hl
  have ha := xmws_get (ks := ks) (b := b) h1
  refine W.zast hC.hx hC.hb (hP.1 a _ ha) ((hC.hk.1.2 1 _ rfl).1 n (fun j => .int (f j))) (fun q => by cases q) (by show ¬ (i < 0 ∨ (arrV _ _ _).slots.size ≤ _); rw [arrV_size]; exact hin) rfl rfl hdg fun H1 ee zz oq => ?_
  refine kk w2 hf2 H1 _ ls ⟨?_, ?_⟩ (hS.put zz oq (xm_D.2 a _ ha)) hl
  · rw [hw2, ← xmws_set]
    refine hP.1.set xm_D ha ?_ oq
    show H1[b + a]? = some (vp_cell _ _)
    rw [ee]
    rw [vp_cell_i, vp_cell_i, arrV_store]
    congr 2
    funext q
    by_cases hq : q = i.toNatClampNeg
    · subst hq
      simp [updV, upd, vp_nar]
      try rfl
      try simp [vp_nar]
    · simp [updV, upd, hq]
  · rw [hw2, List.length_set, zz]; exact hP.2
theorem xb_qast2 (hC : xmC p s m args meth c D ks b nL cc own) {α : Type} {z : α} {r x : Option Nat} {i : Int32} {F : xmW → Option α} (hdg : decode cc pc = .ok (.aastore, 1)) (hf : (xmqst w r 2 1 i x).bind F = some z) (kk : ∀ w2 : xmW, F w2 = some z → xmJ p l e R s m args below meth c D ks b nL Q w2 cells slots (pc + 1) lv st) : xmJ p l e R s m args below meth c D ks b nL Q w cells slots pc lv (xR x :: xI i :: xR r :: st) := by
  obtain ⟨w2, hw, hf2⟩ := xm_bind hf
  obtain ⟨a, n, f, v, fs, rfl, rfl, hv1, h1, hin, hw2⟩ := xmqst_at hw
  intro H locs ls hP hS hl
  have hK := hC.hk.1
  have ha := xmws_get (ks := ks) (b := b) h1
  have hlt : i.toNatClampNeg < n := Nat.not_le.mp fun q => hin (Or.inr q)
  have h0 : ¬ i < 0 := fun q => hin (Or.inl q)
  obtain ⟨r', hr', cellV, g1, g2, g3, -⟩ := hP.1 v _ (xmws_get (ks := ks) (b := b) hv1)
  have hcls := (hK.1 1 _ rfl).2
  obtain ⟨kA, comp, k1, k2, k3, -⟩ := (hK.2 2 _ rfl).2
  have hcomp : comp = D.1 1 := Option.some.inj (k3.symm.trans hcls.1)
  subst hcomp
  obtain ⟨kC, hkC, -⟩ := hcls.2
  refine W.aast hC.hx hC.hb (hP.1 a _ ha) (fun q h => by cases h) (fun h => by cases h) k1 k2 rfl hkC ⟨h0, by show _ < (arrV _ _ _).slots.size; rw [arrV_size]; exact hlt⟩ g1 (fun q h => by rw [g3] at h; cases h) (by rw [g2]; exact hkC) (by rw [g2]; exact va_assign hcls) rfl rfl hdg fun H1 ee zz oq => ?_
  refine kk w2 hf2 H1 _ ls ⟨?_, ?_⟩ (hS.put zz oq (xm_D.2 a _ ha)) hl
  · rw [hw2, ← xmws_set]
    refine hP.1.set xm_D ha ?_ oq
    show H1[b + a]? = some (vp_cell _ _)
    rw [ee]
    rw [vp_cell_q, vp_cell_q, arrV_store]
    congr 2
    funext q
    by_cases hq : q = i.toNatClampNeg
    · subst hq
      simp [updV, va_up, va_rf]
    · simp [updV, va_up, hq]
  · rw [hw2, List.length_set, zz]; exact hP.2
theorem xb_qast3 (hC : xmC p s m args meth c D ks b nL cc own) {α : Type} {z : α} {r x : Option Nat} {i : Int32} {F : xmW → Option α} (hdg : decode cc pc = .ok (.aastore, 1)) (hf : (xmqst w r 3 2 i x).bind F = some z) (kk : ∀ w2 : xmW, F w2 = some z → xmJ p l e R s m args below meth c D ks b nL Q w2 cells slots (pc + 1) lv st) : xmJ p l e R s m args below meth c D ks b nL Q w cells slots pc lv (xR x :: xI i :: xR r :: st) := by
  obtain ⟨w2, hw, hf2⟩ := xm_bind hf
  obtain ⟨a, n, f, v, fs, rfl, rfl, hv1, h1, hin, hw2⟩ := xmqst_at hw
  intro H locs ls hP hS hl
  have hK := hC.hk.1
  have ha := xmws_get (ks := ks) (b := b) h1
  have hlt : i.toNatClampNeg < n := Nat.not_le.mp fun q => hin (Or.inr q)
  have h0 : ¬ i < 0 := fun q => hin (Or.inl q)
  obtain ⟨r', hr', cellV, g1, g2, g3, -⟩ := hP.1 v _ (xmws_get (ks := ks) (b := b) hv1)
  have hcls := (hK.1 2 _ rfl).2
  obtain ⟨kA, comp, k1, k2, k3, -⟩ := (hK.2 3 _ rfl).2
  have hcomp : comp = D.1 2 := Option.some.inj (k3.symm.trans hcls.1)
  subst hcomp
  obtain ⟨kC, hkC, -⟩ := hcls.2
  refine W.aast hC.hx hC.hb (hP.1 a _ ha) (fun q h => by cases h) (fun h => by cases h) k1 k2 rfl hkC ⟨h0, by show _ < (arrV _ _ _).slots.size; rw [arrV_size]; exact hlt⟩ g1 (fun q h => by rw [g3] at h; cases h) (by rw [g2]; exact hkC) (by rw [g2]; exact va_assign hcls) rfl rfl hdg fun H1 ee zz oq => ?_
  refine kk w2 hf2 H1 _ ls ⟨?_, ?_⟩ (hS.put zz oq (xm_D.2 a _ ha)) hl
  · rw [hw2, ← xmws_set]
    refine hP.1.set xm_D ha ?_ oq
    show H1[b + a]? = some (vp_cell _ _)
    rw [ee]
    rw [vp_cell_q, vp_cell_q, arrV_store]
    congr 2
    funext q
    by_cases hq : q = i.toNatClampNeg
    · subst hq
      simp [updV, va_up, va_rf]
    · simp [updV, va_up, hq]
  · rw [hw2, List.length_set, zz]; exact hP.2
theorem xb_new (hC : xmC p s m args meth c D ks b nL cc own) {α : Type} {z : α} {fs : List xmV} {F : xmW → Option α} {C : String} {T : u_T} {N index : Nat} {ty : Nat → FieldType} (ci : Nat) (hcl : xmCL ci C T N ty) (hlk : Cond.classLink own index C ∈ xmTs) (hins : Cond.instantiable C N ∈ xmTs) (hini : Cond.initialized C ∈ xmTs) (hfs : ∀ b j, j < N → defaultValue (ty j) = vp_V (fs.map (xmcv b)) j) (hcells : cells + 1 ≤ R.cells) (hslots : slots + N ≤ R.slots) (hdg : decode cc pc = .ok (.new index, 3)) (hf : (xmnew w ci fs).bind F = some z) (kk : ∀ w2 : xmW, F w2 = some z → xmJ p l e R s m args below meth c D ks b nL Q w2 (cells + 1) (slots + N) (pc + 3) lv (xR (some w.length) :: st)) : xmJ p l e R s m args below meth c D ks b nL Q w cells slots pc lv st := by
  obtain ⟨w2, hw, hf2⟩ := xm_bind hf
  have hw2 := Option.some.inj hw
  intro H locs ls hP hS hl
  have hKn := hC.hk.1.1 ci _ hcl.1
  refine W.newcK hC.hx hC.hb hC.ho (hC.ht _ hlk) (hC.ht _ hins) (hC.ht _ hini) rfl hdg hcells hslots hKn.2.1 hP.2 fun H1 kC hkC e1 z1 o1 => ?_
  have hk : ∀ (k : Nat) (x : Nat × va_E), (xmws ks b w)[k]? = some x → H1[x.1]? = H[x.1]? := fun k x hx => o1 x.1 (by rw [← hP.2]; exact (hP.1 k x hx).lt)
  refine kk w2 hf2 H1 locs ls ⟨?_, ?_⟩ ⟨Nat.le_trans hS.1 (by rw [z1, hP.2]; omega), fun x h1 h2 => (o1 x (by rw [← hP.2]; exact Nat.lt_of_lt_of_le h1 hS.1)).trans (hS.2.1 x h1 h2), hS.2.2⟩ hl
  · rw [← hw2, ← xmws_app]
    refine (hP.1.kept hk).app (fun k x hx => ?_)
    have hz : k < 1 := (List.getElem?_eq_some_iff.mp hx).1
    rw [show k = 0 by omega] at hx
    cases hx
    exact ⟨_, hcl.1, (u_born ty hC.ht hcl.2.1 hKn hkC e1 hcl.2.2.1).to (hfs b)⟩
  · rw [← hw2, z1, List.length_append]; rfl
theorem xb_newarr (hC : xmC p s m args meth c D ks b nL cc own) {α : Type} {z : α} {F : xmW → Option α} {atype : ArrayType} {n : Int32} {N : Nat} (t : Nat) (hat : (atype = .int ∧ t = 0) ∨ (atype = .boolean ∧ t = 1)) (harr : Cond.arrayClass (newarray.typeOf atype) ∈ xmTs) (hn : ¬ n < 0) (hN : n.toNatClampNeg = N) (hb1 : N ≤ 1000) (hcells : cells + 1 ≤ R.cells) (hslots : slots + N ≤ R.slots) (hdg : decode cc pc = .ok (.newarray atype, 2)) (hf : (xmnai w t N).bind F = some z) (kk : ∀ w2 : xmW, F w2 = some z → xmJ p l e R s m args below meth c D ks b nL Q w2 (cells + 1) (slots + N) (pc + 2) lv (xR (some w.length) :: st)) : xmJ p l e R s m args below meth c D ks b nL Q w cells slots pc lv (xI n :: st) := by
  obtain ⟨w2, hw, hf2⟩ := xm_bind hf
  have hw2 := Option.some.inj hw
  intro H locs ls hP hS hl
  have hbytes : N * componentBytes (newarray.typeOf atype) ≤ 536870912 := by
    rcases hat with ⟨h, -⟩ | ⟨h, -⟩
    · subst h
      have h4 : componentBytes (newarray.typeOf .int) = 4 := by decide +kernel
      rw [h4]; omega
    · subst h
      have h4 : componentBytes (newarray.typeOf .boolean) = 1 := by decide +kernel
      rw [h4]; omega
  refine va_newaK hC.hx hC.hb (hC.ht _ harr) rfl hdg rfl hn hN hbytes hcells hslots hP.2 fun H1 cA e1 z1 o1 hAr hNm => ?_
  have hk : ∀ (k : Nat) (x : Nat × va_E), (xmws ks b w)[k]? = some x → H1[x.1]? = H[x.1]? := fun k x hx => o1 x.1 (by rw [← hP.2]; exact (hP.1 k x hx).lt)
  refine kk w2 hf2 H1 locs ls ⟨?_, ?_⟩ ⟨Nat.le_trans hS.1 (by rw [z1, hP.2]; omega), fun x h1 h2 => (o1 x (by rw [← hP.2]; exact Nat.lt_of_lt_of_le h1 hS.1)).trans (hS.2.1 x h1 h2), hS.2.2⟩ hl
  · rw [← hw2, ← xmws_app]
    refine (hP.1.kept hk).app (fun k x hx => ?_)
    have hz : k < 1 := (List.getElem?_eq_some_iff.mp hx).1
    rw [show k = 0 by omega] at hx
    cases hx
    rcases hat with ⟨h, h'⟩ | ⟨h, h'⟩
    · subst h; subst h'
      have hc : cA = ks 0 := by
        have h5 : s.vm.findClass ("[" ++ (FieldType.int).toString) = some (ks 0) := (hC.hk.1.2 0 _ rfl).2
        exact Option.some.inj (hNm.symm.trans h5)
      subst hc
      exact e1
    · subst h; subst h'
      have hc : cA = ks 1 := by
        have h5 : s.vm.findClass ("[" ++ (FieldType.boolean).toString) = some (ks 1) := (hC.hk.1.2 1 _ rfl).2
        exact Option.some.inj (hNm.symm.trans h5)
      subst hc
      exact e1
  · rw [← hw2, z1, List.length_append]; rfl
theorem xb_anew2 (hC : xmC p s m args meth c D ks b nL cc own) {α : Type} {z : α} {F : xmW → Option α} {index : Nat} {n : Int32} {N : Nat} (hlk : Cond.classLink own index "SmallFloats$Format" ∈ xmTs) (hn : ¬ n < 0) (hN : n.toNatClampNeg = N) (hb1 : N ≤ 1000) (hcells : cells + 1 ≤ R.cells) (hslots : slots + N ≤ R.slots) (hdg : decode cc pc = .ok (.anewarray index, 3)) (hf : (xmnaq w 2 N).bind F = some z) (kk : ∀ w2 : xmW, F w2 = some z → xmJ p l e R s m args below meth c D ks b nL Q w2 (cells + 1) (slots + N) (pc + 3) lv (xR (some w.length) :: st)) : xmJ p l e R s m args below meth c D ks b nL Q w cells slots pc lv (xI n :: st) := by
  obtain ⟨w2, hw, hf2⟩ := xm_bind hf
  have hw2 := Option.some.inj hw
  subst hN
  intro H locs ls hP hS hl
  refine W.anew hC.hx hC.hb hC.ho (hC.ht _ hlk) (va_AO.use hC.hk.2.1) rfl hdg rfl hn (by omega) hcells hslots fun cA kA comp f1 f2 f3 f4 => ?_
  generalize hH1 : H.push ({ cls := cA, slots := Array.replicate n.toNatClampNeg .null, vm := .none } : Cell) = H1
  have z1 : H1.size = H.size + 1 := by rw [← hH1, Array.size_push]
  have e1 : H1[H.size]? = some (arrV cA n.toNatClampNeg (fun _ => .null)) := by rw [← hH1, Array.getElem?_push_size, ← arrV_new]
  have o1 : ∀ q : Nat, q < H.size → H1[q]? = H[q]? := fun q hq => by rw [← hH1, Array.getElem?_push, if_neg (Nat.ne_of_lt hq)]
  have hk : ∀ (k : Nat) (x : Nat × va_E), (xmws ks b w)[k]? = some x → H1[x.1]? = H[x.1]? := fun k x hx => o1 x.1 ((hP.1 k x hx).lt)
  have hc : cA = ks 2 := by
    obtain ⟨kA', comp', -, -, -, h5⟩ := (hC.hk.1.2 2 _ rfl).2
    exact Option.some.inj (f1.symm.trans h5)
  subst hc
  rw [hP.2]
  refine kk w2 hf2 H1 locs ls ⟨?_, ?_⟩ ⟨Nat.le_trans hS.1 (by omega), fun x h1 h2 => (o1 x (Nat.lt_of_lt_of_le h1 hS.1)).trans (hS.2.1 x h1 h2), hS.2.2⟩ hl
  · rw [← hw2, ← xmws_app]
    refine (hP.1.kept hk).app (fun k x hx => ?_)
    have hz : k < 1 := (List.getElem?_eq_some_iff.mp hx).1
    rw [show k = 0 by omega] at hx
    cases hx
    show H1[b + w.length]? = some (vp_cell _ _)
    rw [vp_cell_q, ← hP.2]
    exact e1
  · rw [← hw2, z1, List.length_append, hP.2]; rfl
theorem xb_anew3 (hC : xmC p s m args meth c D ks b nL cc own) {α : Type} {z : α} {F : xmW → Option α} {index : Nat} {n : Int32} {N : Nat} (hlk : Cond.classLink own index "SmallFloats$Row" ∈ xmTs) (hn : ¬ n < 0) (hN : n.toNatClampNeg = N) (hb1 : N ≤ 1000) (hcells : cells + 1 ≤ R.cells) (hslots : slots + N ≤ R.slots) (hdg : decode cc pc = .ok (.anewarray index, 3)) (hf : (xmnaq w 3 N).bind F = some z) (kk : ∀ w2 : xmW, F w2 = some z → xmJ p l e R s m args below meth c D ks b nL Q w2 (cells + 1) (slots + N) (pc + 3) lv (xR (some w.length) :: st)) : xmJ p l e R s m args below meth c D ks b nL Q w cells slots pc lv (xI n :: st) := by
  obtain ⟨w2, hw, hf2⟩ := xm_bind hf
  have hw2 := Option.some.inj hw
  subst hN
  intro H locs ls hP hS hl
  refine W.anew hC.hx hC.hb hC.ho (hC.ht _ hlk) (va_AO.use hC.hk.2.2.1) rfl hdg rfl hn (by omega) hcells hslots fun cA kA comp f1 f2 f3 f4 => ?_
  generalize hH1 : H.push ({ cls := cA, slots := Array.replicate n.toNatClampNeg .null, vm := .none } : Cell) = H1
  have z1 : H1.size = H.size + 1 := by rw [← hH1, Array.size_push]
  have e1 : H1[H.size]? = some (arrV cA n.toNatClampNeg (fun _ => .null)) := by rw [← hH1, Array.getElem?_push_size, ← arrV_new]
  have o1 : ∀ q : Nat, q < H.size → H1[q]? = H[q]? := fun q hq => by rw [← hH1, Array.getElem?_push, if_neg (Nat.ne_of_lt hq)]
  have hk : ∀ (k : Nat) (x : Nat × va_E), (xmws ks b w)[k]? = some x → H1[x.1]? = H[x.1]? := fun k x hx => o1 x.1 ((hP.1 k x hx).lt)
  have hc : cA = ks 3 := by
    obtain ⟨kA', comp', -, -, -, h5⟩ := (hC.hk.1.2 3 _ rfl).2
    exact Option.some.inj (f1.symm.trans h5)
  subst hc
  rw [hP.2]
  refine kk w2 hf2 H1 locs ls ⟨?_, ?_⟩ ⟨Nat.le_trans hS.1 (by omega), fun x h1 h2 => (o1 x (Nat.lt_of_lt_of_le h1 hS.1)).trans (hS.2.1 x h1 h2), hS.2.2⟩ hl
  · rw [← hw2, ← xmws_app]
    refine (hP.1.kept hk).app (fun k x hx => ?_)
    have hz : k < 1 := (List.getElem?_eq_some_iff.mp hx).1
    rw [show k = 0 by omega] at hx
    cases hx
    show H1[b + w.length]? = some (vp_cell _ _)
    rw [vp_cell_q, ← hP.2]
    exact e1
  · rw [← hw2, z1, List.length_append, hP.2]; rfl
theorem xj_iret (hC : xmC p s m args meth c D ks b nL cc own) {mc ms : Nat} {x y : Int32} {w2 : xmW} (hr : meth.sig.returnType = some .int) (hc1 : cells ≤ mc) (hc2 : slots ≤ ms) (hdg : decode cc pc = .ok (.ireturn, 1)) (hx : x = y) (hw : w = w2) : xmJ p l e R s m args below meth c D ks b nL (MQ below (xmQ D ks b (some (xI y)) w2) args s mc ms (xmA b)) w cells slots pc lv [xI x] := by
  subst hx; subst hw
  intro H locs ls hP hS hl
  refine W.widen hc1 hc2 ?_
  exact W.iret hC.hx hC.hb hr (fun t ht _ => ⟨rfl, by rw [ht]; exact hP, hS.F ht⟩) hS.2.2 hdg hC.hq
theorem xj_lret (hC : xmC p s m args meth c D ks b nL cc own) {mc ms : Nat} {x y : Int64} {w2 : xmW} (hr : meth.sig.returnType = some .long) (hc1 : cells ≤ mc) (hc2 : slots ≤ ms) (hdg : decode cc pc = .ok (.lreturn, 1)) (hx : x = y) (hw : w = w2) : xmJ p l e R s m args below meth c D ks b nL (MQ below (xmQ D ks b (some (xL y)) w2) args s mc ms (xmA b)) w cells slots pc lv [xL x] := by
  subst hx; subst hw
  intro H locs ls hP hS hl
  refine W.widen hc1 hc2 ?_
  exact W.lret hC.hx hC.hb hr (fun t ht _ => ⟨rfl, by rw [ht]; exact hP, hS.F ht⟩) hS.2.2 hdg hC.hq
theorem xj_zret (hC : xmC p s m args meth c D ks b nL cc own) {mc ms : Nat} {x y : Int32} {w2 : xmW} (hr : meth.sig.returnType = some .boolean) (hc1 : cells ≤ mc) (hc2 : slots ≤ ms) (hdg : decode cc pc = .ok (.ireturn, 1)) (hz : xmbz x = some y) (hw : w = w2) : xmJ p l e R s m args below meth c D ks b nL (MQ below (xmQ D ks b (some (xI y)) w2) args s mc ms (xmA b)) w cells slots pc lv [xI x] := by
  subst hw
  unfold xmbz at hz
  split at hz
  · rename_i hx
    have hxy := Option.some.inj hz
    subst hxy
    intro H locs ls hP hS hl
    refine W.widen hc1 hc2 ?_
    exact W.zret hC.hx hC.hb hr (by rcases hx with rfl | rfl <;> decide +kernel) (fun t ht _ => ⟨rfl, by rw [ht]; exact hP, hS.F ht⟩) hS.2.2 hdg hC.hq
  · cases hz
theorem xj_aret (hC : xmC p s m args meth c D ks b nL cc own) {mc ms : Nat} {x y : Option Nat} {w2 : xmW} {C : String} (hr : meth.sig.returnType = some (.object C)) (hc1 : cells ≤ mc) (hc2 : slots ≤ ms) (hdg : decode cc pc = .ok (.areturn, 1)) (hx : x = y) (hw : w = w2) : xmJ p l e R s m args below meth c D ks b nL (MQ below (xmQ D ks b (some (xR y)) w2) args s mc ms (xmA b)) w cells slots pc lv [xR x] := by
  subst hx; subst hw
  intro H locs ls hP hS hl
  refine W.widen hc1 hc2 ?_
  exact W.aret hC.hx hC.hb hr (Or.inl ⟨_, rfl⟩) (by cases x with | none => exact Or.inl rfl | some k => exact Or.inr ⟨_, rfl⟩) (fun t ht _ => ⟨rfl, by rw [ht]; exact hP, hS.F ht⟩) hS.2.2 hdg hC.hq
theorem xj_vret (hC : xmC p s m args meth c D ks b nL cc own) {mc ms : Nat} {w2 : xmW} (hr : meth.sig.returnType = none) (hc1 : cells ≤ mc) (hc2 : slots ≤ ms) (hdg : decode cc pc = .ok (.return_, 1)) (hw : w = w2) : xmJ p l e R s m args below meth c D ks b nL (MQ below (xmQ D ks b none w2) args s mc ms (xmA b)) w cells slots pc lv [] := by
  subst hw
  intro H locs ls hP hS hl
  refine W.widen hc1 hc2 ?_
  exact W.vret hC.hx hC.hb hr (fun t ht _ => ⟨rfl, by rw [ht]; exact hP, hS.F ht⟩) hS.2.2 hdg hC.hq
theorem xj_objInit (hC : xmC p s m args meth c D ks b nL cc own) {index : Nat} {r : Option Nat} {k : Nat} (hrk : r = some k) (hlk : Cond.methodLink own index objectInit ∈ xmTs) (hin : Cond.instanceMethod objectInit ∈ xmTs) (hcd : Cond.code objectInit ⟨#[0xb1]⟩ 1 none ∈ xmTs) (hdg : decode cc pc = .ok (.invokespecial index, 3)) (hR : 1 ≤ R.frames ∧ xmsz st + 12 ≤ R.locals) (kk : xmJ p l e R s m args below meth c D ks b nL Q w cells slots (pc + 3) lv st) : xmJ p l e R s m args below meth c D ks b nL Q w cells slots pc lv (xR r :: st) := by
  subst hrk
  intro H locs ls hP hS hl
  refine W.objInit hC.hx hC.hb hC.ho (hC.ht _ hlk) (hC.ht _ hin) (hC.ht _ hcd) rfl (by rw [hC.hm]; exact hl.1) rfl hdg hR.1 ?_ ?_
  · show 2 * 0 + _ + 12 ≤ R.locals
    rw [xm_stk]; omega
  · exact kk H locs ls hP hS hl
theorem xj_mmax (hC : xmC p s m args meth c D ks b nL cc own) {index : Nat} {x y : Int32} (hlk : Cond.methodLink own index Lib.Math.max.name ∈ xmTs) (hst : Cond.static Lib.Math.max.name ∈ xmTs) (hini : Cond.initialized "java/lang/Math" ∈ xmTs) (hcd : Cond.code Lib.Math.max.name Lib.Math.max.code 2 (some .int) ∈ xmTs) (hR : 1 ≤ R.frames ∧ xmsz st + 13 ≤ R.locals) (hc1 : cells ≤ R.cells) (hc2 : slots ≤ R.slots) (hdg : decode cc pc = .ok (.invokestatic index, 3)) (kk : xmJ p l e R s m args below meth c D ks b nL Q w cells slots (pc + 3) lv (xI (if x < y then y else x) :: st)) : xmJ p l e R s m args below meth c D ks b nL Q w cells slots pc lv (xI y :: xI x :: st) := by
  intro H locs ls hP hS hl
  exact va_mmax hC.hx hC.hb (hC.hm.trans hl.1.symm) hC.ho (hC.ht _ hlk) (hC.ht _ hst) (hC.ht _ hini) (hC.ht _ hcd) hR.1 (by rw [xm_stk]; exact hR.2) hc1 hc2 hdg (kk H locs ls hP hS hl)
theorem xj_mmin (hC : xmC p s m args meth c D ks b nL cc own) {index : Nat} {x y : Int32} (hlk : Cond.methodLink own index Lib.Math.min.name ∈ xmTs) (hst : Cond.static Lib.Math.min.name ∈ xmTs) (hini : Cond.initialized "java/lang/Math" ∈ xmTs) (hcd : Cond.code Lib.Math.min.name Lib.Math.min.code 2 (some .int) ∈ xmTs) (hR : 1 ≤ R.frames ∧ xmsz st + 13 ≤ R.locals) (hc1 : cells ≤ R.cells) (hc2 : slots ≤ R.slots) (hdg : decode cc pc = .ok (.invokestatic index, 3)) (kk : xmJ p l e R s m args below meth c D ks b nL Q w cells slots (pc + 3) lv (xI (if y < x then y else x) :: st)) : xmJ p l e R s m args below meth c D ks b nL Q w cells slots pc lv (xI y :: xI x :: st) := by
  intro H locs ls hP hS hl
  exact va_mmin hC.hx hC.hb (hC.hm.trans hl.1.symm) hC.ho (hC.ht _ hlk) (hC.ht _ hst) (hC.ht _ hini) (hC.ht _ hcd) hR.1 (by rw [xm_stk]; exact hR.2) hc1 hc2 hdg (kk H locs ls hP hS hl)
theorem xj_mmax_long (hC : xmC p s m args meth c D ks b nL cc own) {index : Nat} {x y : Int64} (hlk : Cond.methodLink own index Lib.MathLoose.max_long.x ∈ xmTs) (hst : Cond.static Lib.MathLoose.max_long.x ∈ xmTs) (hini : Cond.initialized "java/lang/Math" ∈ xmTs) (hcd : Cond.code Lib.MathLoose.max_long.x Lib.MathLoose.max_long.code 4 (some .long) ∈ xmTs) (hR : 1 ≤ R.frames ∧ xmsz st + 15 ≤ R.locals) (hc1 : cells ≤ R.cells) (hc2 : slots ≤ R.slots) (hdg : decode cc pc = .ok (.invokestatic index, 3)) (kk : xmJ p l e R s m args below meth c D ks b nL Q w cells slots (pc + 3) lv (xL (if y < x then x else y) :: st)) : xmJ p l e R s m args below meth c D ks b nL Q w cells slots pc lv (xL y :: xL x :: st) := by
  intro H locs ls hP hS hl
  exact va_mmax_long hC.hx hC.hb (hC.hm.trans hl.1.symm) hC.ho (hC.ht _ hlk) (hC.ht _ hst) (hC.ht _ hini) (hC.ht _ hcd) hR.1 (by rw [xm_stk]; exact hR.2) hc1 hc2 hdg (kk H locs ls hP hS hl)
theorem xj_mmin_long (hC : xmC p s m args meth c D ks b nL cc own) {index : Nat} {x y : Int64} (hlk : Cond.methodLink own index Lib.MathLoose.min_long.x ∈ xmTs) (hst : Cond.static Lib.MathLoose.min_long.x ∈ xmTs) (hini : Cond.initialized "java/lang/Math" ∈ xmTs) (hcd : Cond.code Lib.MathLoose.min_long.x Lib.MathLoose.min_long.code 4 (some .long) ∈ xmTs) (hR : 1 ≤ R.frames ∧ xmsz st + 15 ≤ R.locals) (hc1 : cells ≤ R.cells) (hc2 : slots ≤ R.slots) (hdg : decode cc pc = .ok (.invokestatic index, 3)) (kk : xmJ p l e R s m args below meth c D ks b nL Q w cells slots (pc + 3) lv (xL (if y < x then y else x) :: st)) : xmJ p l e R s m args below meth c D ks b nL Q w cells slots pc lv (xL y :: xL x :: st) := by
  intro H locs ls hP hS hl
  exact va_mmin_long hC.hx hC.hb (hC.hm.trans hl.1.symm) hC.ho (hC.ht _ hlk) (hC.ht _ hst) (hC.ht _ hini) (hC.ht _ hcd) hR.1 (by rw [xm_stk]; exact hR.2) hc1 hc2 hdg (kk H locs ls hP hS hl)
theorem xj_mabs (hC : xmC p s m args meth c D ks b nL cc own) {index : Nat} {x : Int32} (hlk : Cond.methodLink own index Lib.Math.abs.name ∈ xmTs) (hst : Cond.static Lib.Math.abs.name ∈ xmTs) (hini : Cond.initialized "java/lang/Math" ∈ xmTs) (hcd : Cond.code Lib.Math.abs.name Lib.Math.abs.code 1 (some .int) ∈ xmTs) (hR : 1 ≤ R.frames ∧ xmsz st + 13 ≤ R.locals) (hc1 : cells ≤ R.cells) (hc2 : slots ≤ R.slots) (hdg : decode cc pc = .ok (.invokestatic index, 3)) (kk : xmJ p l e R s m args below meth c D ks b nL Q w cells slots (pc + 3) lv (xI (if 0 ≤ x then x else 0 - x) :: st)) : xmJ p l e R s m args below meth c D ks b nL Q w cells slots pc lv (xI x :: st) := by
  intro H locs ls hP hS hl
  exact va_mabs hC.hx hC.hb (hC.hm.trans hl.1.symm) hC.ho (hC.ht _ hlk) (hC.ht _ hst) (hC.ht _ hini) (hC.ht _ hcd) hR.1 (by rw [xm_stk]; exact hR.2) hc1 hc2 hdg (kk H locs ls hP hS hl)
theorem xj_mabs_long (hC : xmC p s m args meth c D ks b nL cc own) {index : Nat} {x : Int64} (hlk : Cond.methodLink own index Lib.MathLoose.abs_long.x ∈ xmTs) (hst : Cond.static Lib.MathLoose.abs_long.x ∈ xmTs) (hini : Cond.initialized "java/lang/Math" ∈ xmTs) (hcd : Cond.code Lib.MathLoose.abs_long.x Lib.MathLoose.abs_long.code 2 (some .long) ∈ xmTs) (hR : 1 ≤ R.frames ∧ xmsz st + 13 ≤ R.locals) (hc1 : cells ≤ R.cells) (hc2 : slots ≤ R.slots) (hdg : decode cc pc = .ok (.invokestatic index, 3)) (kk : xmJ p l e R s m args below meth c D ks b nL Q w cells slots (pc + 3) lv (xL (if 0 < x then x else -x) :: st)) : xmJ p l e R s m args below meth c D ks b nL Q w cells slots pc lv (xL x :: st) := by
  intro H locs ls hP hS hl
  exact va_mabs_long hC.hx hC.hb (hC.hm.trans hl.1.symm) hC.ho (hC.ht _ hlk) (hC.ht _ hst) (hC.ht _ hini) (hC.ht _ hcd) hR.1 (by rw [xm_stk]; exact hR.2) hc1 hc2 hdg (kk H locs ls hP hS hl)
def xmRun (p : Program) (l : Launch) (e : Env) (R : Room) (s : State) (m : MethodId) (args : Array Value) (below : List Frame) (meth : Method) (c : Code) (D : va_G) (ks : Nat → ClassId) (b nL : Nat) (w : xmW) (cells slots mc ms pc : Nat) (st0 st : List xmV) (rv : Option xmV) (w' : xmW) : Prop :=
  ∀ (H : Heap) (locs : List Loc) (ls : Array Slot), xmRP D ks b w H → ls.size = nL → ∃ a : Array Value, va_Run p l e R s m args below meth c H locs cells slots mc ms (F0 m pc ls (st0.map (xmcv b))) (st.map (xmcv b)) (xmQ D ks b rv w' a) (xmA b)
theorem xj_ret {mc ms : Nat} {st0 : List xmV} {rv : Option xmV} {w' : xmW} (hr : xmRun p l e R s m args below meth c D ks b nL w cells slots mc ms pc st0 st rv w') (kk : xmJ p l e R s m args below meth c D ks b nL Q w' (cells + mc) (slots + ms) (pc + 3) lv (rv.toList ++ st)) : xmJ p l e R s m args below meth c D ks b nL Q w cells slots pc lv st0 := by
  intro H locs ls hP hS hl T hT X
  obtain ⟨a, hrun⟩ := hr H locs ls hP hl.1
  obtain ⟨v, st₀, t, T', L, h0, X', hL, e1, e2, ⟨hv, hP', hz, hkeep⟩, stp⟩ := hrun T hT X
  have hv' : v = rv.map (xmcv b) := Outcome.returned.inj hv
  subst hv'
  rw [h0] at hz hkeep
  rw [← e1] at hP'
  have hS' : va_S (xmA b) s.heap T'.heap (locs ++ L) := ⟨Nat.le_trans hS.1 (by rw [e1]; exact hz), fun q h1 h2 => by rw [e1, hkeep q (Nat.lt_of_lt_of_le h1 hS.1) h2]; exact hS.2.1 q h1 h2, fun q hq => by
    rcases List.mem_append.mp hq with h | h
    · exact hS.2.2 q h
    · exact hL q h⟩
  have hst : (rv.toList ++ st).map (xmcv b) = (rv.map (xmcv b)).toList ++ st.map (xmcv b) := by cases rv <;> rfl
  have k2 := kk T'.heap (locs ++ L) ls hP' hS' hl
  rw [hst] at k2
  obtain ⟨t2, a1, b1⟩ := k2 T' rfl X'
  exact ⟨t2, stp t2 a1, b1⟩
theorem xj_ret0 {st0 : List xmV} {rv : Option xmV} {w' : xmW} (hr : xmRun p l e R s m args below meth c D ks b nL w cells slots 0 0 pc st0 st rv w') (kk : xmJ p l e R s m args below meth c D ks b nL Q w' cells slots (pc + 3) lv (rv.toList ++ st)) : xmJ p l e R s m args below meth c D ks b nL Q w cells slots pc lv st0 := xj_ret hr kk
theorem xj_reti {st0 : List xmV} {x : Int32} {w' : xmW} (hr : xmRun p l e R s m args below meth c D ks b nL w cells slots 0 0 pc st0 st (some (xI x)) w') (kk : xmJ p l e R s m args below meth c D ks b nL Q w' cells slots (pc + 3) lv (xI x :: st)) : xmJ p l e R s m args below meth c D ks b nL Q w cells slots pc lv st0 := xj_ret hr kk
theorem xj_retl {st0 : List xmV} {x : Int64} {w' : xmW} (hr : xmRun p l e R s m args below meth c D ks b nL w cells slots 0 0 pc st0 st (some (xL x)) w') (kk : xmJ p l e R s m args below meth c D ks b nL Q w' cells slots (pc + 3) lv (xL x :: st)) : xmJ p l e R s m args below meth c D ks b nL Q w cells slots pc lv st0 := xj_ret hr kk
theorem xj_retr {st0 : List xmV} {x : Option Nat} {w' : xmW} (hr : xmRun p l e R s m args below meth c D ks b nL w cells slots 0 0 pc st0 st (some (xR x)) w') (kk : xmJ p l e R s m args below meth c D ks b nL Q w' cells slots (pc + 3) lv (xR x :: st)) : xmJ p l e R s m args below meth c D ks b nL Q w cells slots pc lv st0 := xj_ret hr kk
theorem xj_retv {st0 : List xmV} {w' : xmW} (hr : xmRun p l e R s m args below meth c D ks b nL w cells slots 0 0 pc st0 st none w') (kk : xmJ p l e R s m args below meth c D ks b nL Q w' cells slots (pc + 3) lv st) : xmJ p l e R s m args below meth c D ks b nL Q w cells slots pc lv st0 := xj_ret hr kk
theorem xj_retiM {mc ms : Nat} {st0 : List xmV} {x : Int32} {w' : xmW} (hr : xmRun p l e R s m args below meth c D ks b nL w cells slots mc ms pc st0 st (some (xI x)) w') (kk : xmJ p l e R s m args below meth c D ks b nL Q w' (cells + mc) (slots + ms) (pc + 3) lv (xI x :: st)) : xmJ p l e R s m args below meth c D ks b nL Q w cells slots pc lv st0 := xj_ret hr kk
theorem xj_retvM {mc ms : Nat} {st0 : List xmV} {w' : xmW} (hr : xmRun p l e R s m args below meth c D ks b nL w cells slots mc ms pc st0 st none w') (kk : xmJ p l e R s m args below meth c D ks b nL Q w' (cells + mc) (slots + ms) (pc + 3) lv st) : xmJ p l e R s m args below meth c D ks b nL Q w cells slots pc lv st0 := xj_ret hr kk
theorem xm_good {y : MethodName} {bytes : ByteArray} {maxL : Nat} {ret : Option FieldType} (h : Cond.code y bytes maxL ret ∈ xmTs) : GoodIn xmTs (Cond.code y bytes maxL ret :: xmTs) := by
  intro w hw
  rcases List.mem_cons.mp hw with rfl | hw
  · exact ⟨h, good_of_word (xmTs_good _ h)⟩
  · exact ⟨hw, good_of_word (xmTs_good _ hw)⟩
theorem xm_blind {av : List Value} {D : va_G} {ks : Nat → ClassId} {b : Nat} {w : xmW} : FrameBlind (va_Pc av (fun U => xmRP D ks b w U.heap ∧ xmK D ks U)) := fun _ _ _ _ q => ⟨q.1, q.2.1, xmK.call q.2.2⟩
def xmDs (y : MethodName) (n : Nat) : Prop := y.cls ≠ "java/lang/invoke/MethodHandle" ∧ y.cls ≠ "java/lang/invoke/VarHandle" ∧ (parseMethodDescriptor y.desc).map (fun d => d.parameters.length) = some n
theorem xr_V (hC : xmC p s m args meth c D ks b nL cc own) {y : MethodName} {bytes : ByteArray} {maxL fr lo mc ms index n : Nat} {ret : Option FieldType} {as : List xmV} {rv : Option xmV} {w' : xmW} {st0 : List xmV} {r : Option Nat} (hM : xmM l y (Cond.code y bytes maxL ret :: xmTs) fr lo mc ms D ks b w (xR r :: as) rv w') {ci N : Nat} {T : u_T} {fs : List xmV} (hob : xmob w r ci = some fs) (hcl : vwCl[ci]? = some (y.cls, T, N)) (hcd : Cond.code y bytes maxL ret ∈ xmTs) (hini : Cond.initialized y.cls ∈ xmTs) (hin : Cond.instanceMethod y ∈ xmTs) (hse : Cond.selects y.cls y y ∈ xmTs) (hlk : Cond.methodLink own index y ∈ xmTs) (hd : xmDs y n) (hR : fr + 1 ≤ R.frames ∧ 8 + (maxL + 11) + lo ≤ R.locals) (hn : as.length = n) (hst : st0 = as.reverse ++ xR r :: st) (hW : xmsz st ≤ 8) (hf : cells + mc ≤ R.cells ∧ slots + ms ≤ R.slots) (hdg : decode cc pc = .ok (.invokevirtual index, 3)) : xmRun p l e R s m args below meth c D ks b nL w cells slots mc ms pc st0 st rv w' := by
  obtain ⟨k, rfl, h1⟩ := xmob_at hob
  intro H locs ls hP hsz
  subst hst
  have hcb := callB_of (R := R) (own := own) (index := index) (rm := ⟨fr, mc, ms, lo⟩) n hC.ht (xm_good hcd) rfl (mc := mc) (ms := ms) rfl rfl (hC.ht _ hini) (hC.ht _ hlk) hd hR
  exact ⟨_, va_runV (C := y.cls) (As := as.map (xmcv b)) (rest := st.map (xmcv b)) ⟨hC.hx, hC.hb, hC.hm, hC.ho, hC.ht⟩ hM ⟨hcb, hC.ht _ hin, hC.ht _ hse⟩ ⟨xm_blind, va_recv hC.hk.1 hP.1 hcl (xmws_get h1), fun U hU hW => ⟨rfl, by rw [hU]; exact hP, hC.hk.moved hW⟩⟩ rfl (by rw [List.length_map]; exact hn) hsz (by show List.map (xmcv b) (as.reverse ++ xR (some k) :: st) = _; rw [List.map_append, List.map_reverse]; rfl) (by show 2 * 0 + _ ≤ 8; rw [xm_stk]; omega) hdg hf⟩
theorem xr_S (hC : xmC p s m args meth c D ks b nL cc own) {y : MethodName} {bytes : ByteArray} {maxL fr lo mc ms index n : Nat} {ret : Option FieldType} {as : List xmV} {rv : Option xmV} {w' : xmW} {st0 : List xmV} (hM : xmM l y (Cond.code y bytes maxL ret :: xmTs) fr lo mc ms D ks b w as rv w') (hcd : Cond.code y bytes maxL ret ∈ xmTs) (hini : Cond.initialized y.cls ∈ xmTs) (hsta : Cond.static y ∈ xmTs) (hlk : Cond.methodLink own index y ∈ xmTs) (hd : xmDs y n) (hR : fr + 1 ≤ R.frames ∧ 8 + (maxL + 11) + lo ≤ R.locals) (hn : as.length = n) (hst : st0 = as.reverse ++ st) (hW : xmsz st ≤ 8) (hf : cells + mc ≤ R.cells ∧ slots + ms ≤ R.slots) (hdg : decode cc pc = .ok (.invokestatic index, 3)) : xmRun p l e R s m args below meth c D ks b nL w cells slots mc ms pc st0 st rv w' := by
  intro H locs ls hP hsz
  subst hst
  have hcb := callB_of (R := R) (own := own) (index := index) (rm := ⟨fr, mc, ms, lo⟩) n hC.ht (xm_good hcd) rfl (mc := mc) (ms := ms) rfl rfl (hC.ht _ hini) (hC.ht _ hlk) hd hR
  exact ⟨_, va_runS (As := as.map (xmcv b)) (rest := st.map (xmcv b)) ⟨hC.hx, hC.hb, hC.hm, hC.ho, hC.ht⟩ hM ⟨hcb, hC.ht _ hsta⟩ ⟨xm_blind, fun U hU hW => ⟨rfl, by rw [hU]; exact hP, hC.hk.moved hW⟩⟩ rfl (by rw [List.length_map]; exact hn) hsz (by show List.map (xmcv b) (as.reverse ++ st) = _; rw [List.map_append, List.map_reverse]) (by show 2 * 0 + _ ≤ 8; rw [xm_stk]; omega) hdg hf⟩
theorem xr_I (hC : xmC p s m args meth c D ks b nL cc own) {y : MethodName} {bytes : ByteArray} {maxL fr lo mc ms index n : Nat} {as : List xmV} {rv : Option xmV} {w' : xmW} {st0 : List xmV} {k : Nat} (hM : xmM l y (Cond.code y bytes maxL none :: xmTs) fr lo mc ms D ks b w (xR (some k) :: as) rv w') (hy1 : y.name = "<init>") (hcd : Cond.code y bytes maxL none ∈ xmTs) (hini : Cond.initialized y.cls ∈ xmTs) (hin : Cond.instanceMethod y ∈ xmTs) (hlk : Cond.methodLink own index y ∈ xmTs) (hd : xmDs y n) (hR : fr + 1 ≤ R.frames ∧ 8 + (maxL + 11) + lo ≤ R.locals) (hn : as.length = n) (hst : st0 = as.reverse ++ xR (some k) :: st) (hW : xmsz st ≤ 8) (hf : cells + mc ≤ R.cells ∧ slots + ms ≤ R.slots) (hdg : decode cc pc = .ok (.invokespecial index, 3)) : xmRun p l e R s m args below meth c D ks b nL w cells slots mc ms pc st0 st rv w' := by
  intro H locs ls hP hsz
  subst hst
  have hcb := callB_of (R := R) (own := own) (index := index) (rm := ⟨fr, mc, ms, lo⟩) n hC.ht (xm_good hcd) rfl (mc := mc) (ms := ms) rfl rfl (hC.ht _ hini) (hC.ht _ hlk) hd hR
  exact ⟨_, va_runI (b := b + k) (As := as.map (xmcv b)) (rest := st.map (xmcv b)) ⟨hC.hx, hC.hb, hC.hm, hC.ho, hC.ht⟩ hM ⟨hcb, hy1, hC.ht _ hin⟩ ⟨xm_blind, fun U hU hW => ⟨rfl, by rw [hU]; exact hP, hC.hk.moved hW⟩⟩ rfl (by rw [List.length_map]; exact hn) hsz (by show List.map (xmcv b) (as.reverse ++ xR (some k) :: st) = _; rw [List.map_append, List.map_reverse]; rfl) (by show 2 * 0 + _ ≤ 8; rw [xm_stk]; omega) hdg hf⟩
theorem xr_IN (hC : xmC p s m args meth c D ks b nL cc own) {y : MethodName} {bytes : ByteArray} {maxL fr lo mc ms index n : Nat} {as : List xmV} {rv : Option xmV} {w' : xmW} {st0 : List xmV} {k : Nat} (hM : xmM l y (Cond.code y bytes maxL none :: xmTs) fr lo mc ms D ks b w (xR (some k) :: as) rv w') {host : String} (hy1 : y.name = "<init>") (hcd : Cond.code y bytes maxL none ∈ xmTs) (hini : Cond.initialized y.cls ∈ xmTs) (hin : Cond.instanceMethod y ∈ xmTs) (hlk : va_Nw (.methodLinkNest own index y host) s) (hd : xmDs y n) (hR : fr + 1 ≤ R.frames ∧ 8 + (maxL + 11) + lo ≤ R.locals) (hn : as.length = n) (hst : st0 = as.reverse ++ xR (some k) :: st) (hW : xmsz st ≤ 8) (hf : cells + mc ≤ R.cells ∧ slots + ms ≤ R.slots) (hdg : decode cc pc = .ok (.invokespecial index, 3)) : xmRun p l e R s m args below meth c D ks b nL w cells slots mc ms pc st0 st rv w' := by
  intro H locs ls hP hsz
  subst hst
  have hcb := va_cnB (R := R) (own := own) (index := index) (rm := ⟨fr, mc, ms, lo⟩) n hC.ht (xm_good hcd) rfl (mc := mc) (ms := ms) rfl rfl hlk (hC.ht _ hini) hd hR
  exact ⟨_, va_runIN (b := b + k) (As := as.map (xmcv b)) (rest := st.map (xmcv b)) ⟨hC.hx, hC.hb, hC.hm, hC.ho, hC.ht⟩ hM ⟨hcb, hy1, hC.ht _ hin⟩ ⟨xm_blind, fun U hU hW => ⟨rfl, by rw [hU]; exact hP, hC.hk.moved hW⟩⟩ rfl (by rw [List.length_map]; exact hn) hsz (by show List.map (xmcv b) (as.reverse ++ xR (some k) :: st) = _; rw [List.map_append, List.map_reverse]; rfl) (by show 2 * 0 + _ ≤ 8; rw [xm_stk]; omega) hdg hf⟩
theorem xmM.of {y : MethodName} {ret : Option FieldType} {maxL fr lo mc ms : Nat} {as : List xmV} {lv0 : List (Nat × xmV)} {rv : Option xmV} {w' : xmW} (hy : plainName y.cls = true) (hown : y.cls = own) (hsz : xmsz as ≤ maxL) (hlv : xmarg 0 as = lv0)
    (body : ∀ p e s m args below meth c, xmC p s m args meth c D ks b maxL cc own → meth.sig.returnType = ret → meth.name = y.name → xmJ p l e ({ frames := fr, cells := mc, slots := ms, locals := lo }) s m args below meth c D ks b maxL (MQ below (xmQ D ks b rv w') args s mc ms (xmA b)) w 0 0 0 lv0 []) : xmM l y (Cond.code y cc maxL ret :: xmTs) fr lo mc ms D ks b w as rv w' := by
  refine Met.ofW (cc := cc) (maxL := maxL) (ret := ret) hy rfl ?_
  intro p e s m args below meth c s₁ B hml hv
  obtain ⟨rfl, hP, hK⟩ := hv
  have hts := atoms_spec (ws := Cond.code y cc maxL ret :: xmTs) B.pre
  have hown2 : s.vm.findClass own = some m.cls := by rw [← hown]; exact findClass_of_methodNamed B.named
  have hC : xmC p s m (as.map (xmcv b)).toArray meth c D ks b maxL cc own := ⟨B.exec, B.bytes, hml, hown2, fun w h => hts w (List.mem_cons_of_mem _ h), hK, by rw [hP.2]; omega, B.notSynchronized⟩
  have hl := lv_entry (as.map (xmcv b)) (n := maxL) (by rw [xm_slen]; exact hsz)
  rw [xmarg_lv, hlv] at hl
  rw [lg_entry_eq]
  exact body p e s m _ below meth c hC B.returns (name_of_methodNamed B.named B.method).1 s.heap [] _ hP va_S.rf hl
end XROWS
