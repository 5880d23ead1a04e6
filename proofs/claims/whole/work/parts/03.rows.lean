/-! Own layer (2): the judgement G (heap, places written and locals hidden) and its rows. Printed by wip/whole/rows.py. -/
def Cx (p : Program) (s : State) (m : MethodId) (args : Array Value) (c : Code) (cc : ByteArray) (nL : Nat) (own : String) : Prop := p.tables.exec = Jvm.exec ∧ c.code = cc ∧ c.maxLocals = nL ∧ s.vm.findClass own = some m.cls ∧ (∀ w ∈ TT, w.before args s = true) ∧ Nst s
theorem Cx.x {p : Program} {s : State} {m : MethodId} {args : Array Value} {c : Code} {cc : ByteArray} {nL : Nat} {own : String} (C : Cx p s m args c cc nL own) : p.tables.exec = Jvm.exec := C.1
theorem Cx.b {p : Program} {s : State} {m : MethodId} {args : Array Value} {c : Code} {cc : ByteArray} {nL : Nat} {own : String} (C : Cx p s m args c cc nL own) : c.code = cc := C.2.1
theorem Cx.ml {p : Program} {s : State} {m : MethodId} {args : Array Value} {c : Code} {cc : ByteArray} {nL : Nat} {own : String} (C : Cx p s m args c cc nL own) : c.maxLocals = nL := C.2.2.1
theorem Cx.own {p : Program} {s : State} {m : MethodId} {args : Array Value} {c : Code} {cc : ByteArray} {nL : Nat} {own : String} (C : Cx p s m args c cc nL own) : s.vm.findClass own = some m.cls := C.2.2.2.1
theorem Cx.ts {p : Program} {s : State} {m : MethodId} {args : Array Value} {c : Code} {cc : ByteArray} {nL : Nat} {own : String} (C : Cx p s m args c cc nL own) : ∀ w ∈ TT, w.before args s = true := C.2.2.2.2.1
theorem Cx.n {p : Program} {s : State} {m : MethodId} {args : Array Value} {c : Code} {cc : ByteArray} {nL : Nat} {own : String} (C : Cx p s m args c cc nL own) : Nst s := C.2.2.2.2.2
def G (p : Program) (l : Launch) (e : Env) (R : Room) (s : State) (m : MethodId) (args : Array Value) (below : List Frame) (meth : Method) (c : Code) (Q : State → Prop) (D : va_G) (A : Nat → Prop) (nL : Nat) (ws : va_W) (pc : Nat) (L : List (Nat × Value)) (st : List Value) : Prop :=
  ∀ (H : Heap) (locs : List Loc) (ls : Array Slot), va_P D classes ws H → va_D A ws → va_S A s.heap H locs → lv_has ls nL L → W p l e R s m args below meth c H locs 0 0 Q (F0 m pc ls st)
section ROWS
variable {p : Program} {l : Launch} {e : Env} {R : Room} {s : State} {m : MethodId} {args : Array Value} {below : List Frame} {meth : Method} {c : Code} {Q : State → Prop} {D : va_G} {A : Nat → Prop} {nL : Nat} {ws : va_W} {pc pc1 : Nat} {L L1 : List (Nat × Value)} {st rest : List Value} {cc : ByteArray} {own : String}
theorem g_iconst (C : Cx p s m args c cc nL own) {n : Int} {v : Int32} (d : decode cc pc = .ok (.iconst n, 1)) (hp : pc + 1 = pc1) (hv : Int32.ofInt n = v) (k : G p l e R s m args below meth c Q D A nL ws pc1 L (.int v :: rest)) : G p l e R s m args below meth c Q D A nL ws pc L (rest) := by
  subst hp
  intro H locs ls h1 h2 h3 h4
  exact lv_iconst C.x C.b d hv (k H locs ls h1 h2 h3 h4)
theorem g_bipush (C : Cx p s m args c cc nL own) {n : Int} {v : Int32} (d : decode cc pc = .ok (.bipush n, 2)) (hp : pc + 2 = pc1) (hv : (Int8.ofInt n).toInt32 = v) (k : G p l e R s m args below meth c Q D A nL ws pc1 L (.int v :: rest)) : G p l e R s m args below meth c Q D A nL ws pc L (rest) := by
  subst hp
  intro H locs ls h1 h2 h3 h4
  exact lv_bipush C.x C.b d hv (k H locs ls h1 h2 h3 h4)
theorem g_sipush (C : Cx p s m args c cc nL own) {n : Int} {v : Int32} (d : decode cc pc = .ok (.sipush n, 3)) (hp : pc + 3 = pc1) (hv : (Int16.ofInt n).toInt32 = v) (k : G p l e R s m args below meth c Q D A nL ws pc1 L (.int v :: rest)) : G p l e R s m args below meth c Q D A nL ws pc L (rest) := by
  subst hp
  intro H locs ls h1 h2 h3 h4
  exact lv_sipush C.x C.b d hv (k H locs ls h1 h2 h3 h4)
theorem g_lconst (C : Cx p s m args c cc nL own) {n : Fin 2} {v : Int64} (d : decode cc pc = .ok (.lconst n, 1)) (hp : pc + 1 = pc1) (hv : Int64.ofNat (n : Nat) = v) (k : G p l e R s m args below meth c Q D A nL ws pc1 L (.long v :: rest)) : G p l e R s m args below meth c Q D A nL ws pc L (rest) := by
  subst hp
  intro H locs ls h1 h2 h3 h4
  exact lv_lconst C.x C.b d hv (k H locs ls h1 h2 h3 h4)
theorem g_ldc (C : Cx p s m args c cc nL own) {idx : Nat} {v : Int32} (d : decode cc pc = .ok (.ldc idx, 2)) (hp : pc + 2 = pc1) (hw : Cond.constant own idx v ∈ TT) (k : G p l e R s m args below meth c Q D A nL ws pc1 L (.int v :: rest)) : G p l e R s m args below meth c Q D A nL ws pc L (rest) := by
  subst hp
  intro H locs ls h1 h2 h3 h4
  exact lv_ldc C.x C.b C.own (C.ts _ hw) d (k H locs ls h1 h2 h3 h4)
theorem g_ldcw (C : Cx p s m args c cc nL own) {idx : Nat} {v : Int32} (d : decode cc pc = .ok (.ldc_w idx, 3)) (hp : pc + 3 = pc1) (hw : Cond.constant own idx v ∈ TT) (k : G p l e R s m args below meth c Q D A nL ws pc1 L (.int v :: rest)) : G p l e R s m args below meth c Q D A nL ws pc L (rest) := by
  subst hp
  intro H locs ls h1 h2 h3 h4
  exact lv_ldcw C.x C.b C.own (C.ts _ hw) d (k H locs ls h1 h2 h3 h4)
theorem g_ldc2 (C : Cx p s m args c cc nL own) {idx : Nat} {v : Int64} (d : decode cc pc = .ok (.ldc2_w idx, 3)) (hp : pc + 3 = pc1) (hw : Cond.constantLong own idx v ∈ TT) (k : G p l e R s m args below meth c Q D A nL ws pc1 L (.long v :: rest)) : G p l e R s m args below meth c Q D A nL ws pc L (rest) := by
  subst hp
  intro H locs ls h1 h2 h3 h4
  exact lv_ldc2 C.x C.b C.own (C.ts _ hw) d (k H locs ls h1 h2 h3 h4)
theorem g_iload_n (C : Cx p s m args c cc nL own) {k1 : Fin 4} {i : Nat} {x : Int32} (d : decode cc pc = .ok (.iload_n k1, 1)) (hp : pc + 1 = pc1) (hi : (k1 : Nat) = i) (kk : Nat) (hl : L[kk]? = some (i, .int x)) (k : G p l e R s m args below meth c Q D A nL ws pc1 L (.int x :: rest)) : G p l e R s m args below meth c Q D A nL ws pc L (rest) := by
  subst hp
  intro H locs ls h1 h2 h3 h4
  exact lv_iload_n C.x C.b d hi (lv_at h4 kk hl) (k H locs ls h1 h2 h3 h4)
theorem g_iload (C : Cx p s m args c cc nL own) {i : Nat} {x : Int32} (d : decode cc pc = .ok (.iload i, 2)) (hp : pc + 2 = pc1) (kk : Nat) (hl : L[kk]? = some (i, .int x)) (k : G p l e R s m args below meth c Q D A nL ws pc1 L (.int x :: rest)) : G p l e R s m args below meth c Q D A nL ws pc L (rest) := by
  subst hp
  intro H locs ls h1 h2 h3 h4
  exact lv_iload C.x C.b d (lv_at h4 kk hl) (k H locs ls h1 h2 h3 h4)
theorem g_lload_n (C : Cx p s m args c cc nL own) {k1 : Fin 4} {i : Nat} {x : Int64} (d : decode cc pc = .ok (.lload_n k1, 1)) (hp : pc + 1 = pc1) (hi : (k1 : Nat) = i) (kk : Nat) (hl : L[kk]? = some (i, .long x)) (k : G p l e R s m args below meth c Q D A nL ws pc1 L (.long x :: rest)) : G p l e R s m args below meth c Q D A nL ws pc L (rest) := by
  subst hp
  intro H locs ls h1 h2 h3 h4
  exact lv_lload_n C.x C.b d hi (lv_at h4 kk hl) (k H locs ls h1 h2 h3 h4)
theorem g_lload (C : Cx p s m args c cc nL own) {i : Nat} {x : Int64} (d : decode cc pc = .ok (.lload i, 2)) (hp : pc + 2 = pc1) (kk : Nat) (hl : L[kk]? = some (i, .long x)) (k : G p l e R s m args below meth c Q D A nL ws pc1 L (.long x :: rest)) : G p l e R s m args below meth c Q D A nL ws pc L (rest) := by
  subst hp
  intro H locs ls h1 h2 h3 h4
  exact lv_lload C.x C.b d (lv_at h4 kk hl) (k H locs ls h1 h2 h3 h4)
theorem g_aload_n (C : Cx p s m args c cc nL own) {k1 : Fin 4} {i : Nat} {x : Nat} (d : decode cc pc = .ok (.aload_n k1, 1)) (hp : pc + 1 = pc1) (hi : (k1 : Nat) = i) (kk : Nat) (hl : L[kk]? = some (i, .ref x)) (k : G p l e R s m args below meth c Q D A nL ws pc1 L (.ref x :: rest)) : G p l e R s m args below meth c Q D A nL ws pc L (rest) := by
  subst hp
  intro H locs ls h1 h2 h3 h4
  exact lv_aload_n C.x C.b d hi (lv_at h4 kk hl) (k H locs ls h1 h2 h3 h4)
theorem g_aload (C : Cx p s m args c cc nL own) {i : Nat} {x : Nat} (d : decode cc pc = .ok (.aload i, 2)) (hp : pc + 2 = pc1) (kk : Nat) (hl : L[kk]? = some (i, .ref x)) (k : G p l e R s m args below meth c Q D A nL ws pc1 L (.ref x :: rest)) : G p l e R s m args below meth c Q D A nL ws pc L (rest) := by
  subst hp
  intro H locs ls h1 h2 h3 h4
  exact lv_aload C.x C.b d (lv_at h4 kk hl) (k H locs ls h1 h2 h3 h4)
theorem g_istore_n (C : Cx p s m args c cc nL own) {k1 : Fin 4} {i : Nat} {x : Int32} (d : decode cc pc = .ok (.istore_n k1, 1)) (hp : pc + 1 = pc1) (hi : (k1 : Nat) = i) (hn : i < nL) (hl : (i, Value.int x) :: L.filter (fun q => !(q.1 == i) && !(q.1 + 1 == i && q.2.category == 2)) = L1) (k : G p l e R s m args below meth c Q D A nL ws pc1 L1 rest) : G p l e R s m args below meth c Q D A nL ws pc L (.int x :: rest) := by
  subst hp
  intro H locs ls h1 h2 h3 h4
  exact lv_istore_n C.x C.b d hi h4 hn hl (fun ls1 h5 => k H locs ls1 h1 h2 h3 h5)
theorem g_istore (C : Cx p s m args c cc nL own) {i : Nat} {x : Int32} (d : decode cc pc = .ok (.istore i, 2)) (hp : pc + 2 = pc1) (hn : i < nL) (hl : (i, Value.int x) :: L.filter (fun q => !(q.1 == i) && !(q.1 + 1 == i && q.2.category == 2)) = L1) (k : G p l e R s m args below meth c Q D A nL ws pc1 L1 rest) : G p l e R s m args below meth c Q D A nL ws pc L (.int x :: rest) := by
  subst hp
  intro H locs ls h1 h2 h3 h4
  exact lv_istore C.x C.b d h4 hn hl (fun ls1 h5 => k H locs ls1 h1 h2 h3 h5)
theorem g_lstore_n (C : Cx p s m args c cc nL own) {k1 : Fin 4} {i : Nat} {x : Int64} (d : decode cc pc = .ok (.lstore_n k1, 1)) (hp : pc + 1 = pc1) (hi : (k1 : Nat) = i) (hn : i + 1 < nL) (hl : (i, Value.long x) :: L.filter (fun q => !(q.1 == i) && (!(q.1 == i + 1) && !(q.1 + 1 == i && q.2.category == 2))) = L1) (k : G p l e R s m args below meth c Q D A nL ws pc1 L1 rest) : G p l e R s m args below meth c Q D A nL ws pc L (.long x :: rest) := by
  subst hp
  intro H locs ls h1 h2 h3 h4
  exact lv_lstore_n C.x C.b d hi h4 hn hl (fun ls1 h5 => k H locs ls1 h1 h2 h3 h5)
theorem g_lstore (C : Cx p s m args c cc nL own) {i : Nat} {x : Int64} (d : decode cc pc = .ok (.lstore i, 2)) (hp : pc + 2 = pc1) (hn : i + 1 < nL) (hl : (i, Value.long x) :: L.filter (fun q => !(q.1 == i) && (!(q.1 == i + 1) && !(q.1 + 1 == i && q.2.category == 2))) = L1) (k : G p l e R s m args below meth c Q D A nL ws pc1 L1 rest) : G p l e R s m args below meth c Q D A nL ws pc L (.long x :: rest) := by
  subst hp
  intro H locs ls h1 h2 h3 h4
  exact lv_lstore C.x C.b d h4 hn hl (fun ls1 h5 => k H locs ls1 h1 h2 h3 h5)
theorem g_astore_n (C : Cx p s m args c cc nL own) {k1 : Fin 4} {i : Nat} {x : Nat} (d : decode cc pc = .ok (.astore_n k1, 1)) (hp : pc + 1 = pc1) (hi : (k1 : Nat) = i) (hn : i < nL) (hl : (i, Value.ref x) :: L.filter (fun q => !(q.1 == i) && !(q.1 + 1 == i && q.2.category == 2)) = L1) (k : G p l e R s m args below meth c Q D A nL ws pc1 L1 rest) : G p l e R s m args below meth c Q D A nL ws pc L (.ref x :: rest) := by
  subst hp
  intro H locs ls h1 h2 h3 h4
  exact lv_astore_n C.x C.b d hi h4 hn hl (fun ls1 h5 => k H locs ls1 h1 h2 h3 h5)
theorem g_astore (C : Cx p s m args c cc nL own) {i : Nat} {x : Nat} (d : decode cc pc = .ok (.astore i, 2)) (hp : pc + 2 = pc1) (hn : i < nL) (hl : (i, Value.ref x) :: L.filter (fun q => !(q.1 == i) && !(q.1 + 1 == i && q.2.category == 2)) = L1) (k : G p l e R s m args below meth c Q D A nL ws pc1 L1 rest) : G p l e R s m args below meth c Q D A nL ws pc L (.ref x :: rest) := by
  subst hp
  intro H locs ls h1 h2 h3 h4
  exact lv_astore C.x C.b d h4 hn hl (fun ls1 h5 => k H locs ls1 h1 h2 h3 h5)
theorem g_iinc (C : Cx p s m args c cc nL own) {i : Nat} {n : Int} {x v : Int32} (d : decode cc pc = .ok (.iinc i n, 3)) (hp : pc + 3 = pc1) (kk : Nat) (hk : L[kk]? = some (i, .int x)) (hv : x + Int32.ofInt n = v) (hn : i < nL) (hl : (i, Value.int v) :: L.filter (fun q => !(q.1 == i) && !(q.1 + 1 == i && q.2.category == 2)) = L1) (k : G p l e R s m args below meth c Q D A nL ws pc1 L1 rest) : G p l e R s m args below meth c Q D A nL ws pc L (rest) := by
  subst hp
  intro H locs ls h1 h2 h3 h4
  exact lv_iinc C.x C.b d h4 hk hv hn hl (fun ls1 h5 => k H locs ls1 h1 h2 h3 h5)
theorem g_iadd (C : Cx p s m args c cc nL own) {x y : Int32} (d : decode cc pc = .ok (.iadd, 1)) (hp : pc + 1 = pc1)  (k : G p l e R s m args below meth c Q D A nL ws pc1 L (.int (x + y) :: rest)) : G p l e R s m args below meth c Q D A nL ws pc L (.int y :: .int x :: rest) := by
  subst hp
  intro H locs ls h1 h2 h3 h4
  exact lv_iadd C.x C.b d (k H locs ls h1 h2 h3 h4)
theorem g_isub (C : Cx p s m args c cc nL own) {x y : Int32} (d : decode cc pc = .ok (.isub, 1)) (hp : pc + 1 = pc1)  (k : G p l e R s m args below meth c Q D A nL ws pc1 L (.int (x - y) :: rest)) : G p l e R s m args below meth c Q D A nL ws pc L (.int y :: .int x :: rest) := by
  subst hp
  intro H locs ls h1 h2 h3 h4
  exact lv_isub C.x C.b d (k H locs ls h1 h2 h3 h4)
theorem g_imul (C : Cx p s m args c cc nL own) {x y : Int32} (d : decode cc pc = .ok (.imul, 1)) (hp : pc + 1 = pc1)  (k : G p l e R s m args below meth c Q D A nL ws pc1 L (.int (x * y) :: rest)) : G p l e R s m args below meth c Q D A nL ws pc L (.int y :: .int x :: rest) := by
  subst hp
  intro H locs ls h1 h2 h3 h4
  exact lv_imul C.x C.b d (k H locs ls h1 h2 h3 h4)
theorem g_iand (C : Cx p s m args c cc nL own) {x y : Int32} (d : decode cc pc = .ok (.iand, 1)) (hp : pc + 1 = pc1)  (k : G p l e R s m args below meth c Q D A nL ws pc1 L (.int (x &&& y) :: rest)) : G p l e R s m args below meth c Q D A nL ws pc L (.int y :: .int x :: rest) := by
  subst hp
  intro H locs ls h1 h2 h3 h4
  exact lv_iand C.x C.b d (k H locs ls h1 h2 h3 h4)
theorem g_ior (C : Cx p s m args c cc nL own) {x y : Int32} (d : decode cc pc = .ok (.ior, 1)) (hp : pc + 1 = pc1)  (k : G p l e R s m args below meth c Q D A nL ws pc1 L (.int (x ||| y) :: rest)) : G p l e R s m args below meth c Q D A nL ws pc L (.int y :: .int x :: rest) := by
  subst hp
  intro H locs ls h1 h2 h3 h4
  exact lv_ior C.x C.b d (k H locs ls h1 h2 h3 h4)
theorem g_ixor (C : Cx p s m args c cc nL own) {x y : Int32} (d : decode cc pc = .ok (.ixor, 1)) (hp : pc + 1 = pc1)  (k : G p l e R s m args below meth c Q D A nL ws pc1 L (.int (x ^^^ y) :: rest)) : G p l e R s m args below meth c Q D A nL ws pc L (.int y :: .int x :: rest) := by
  subst hp
  intro H locs ls h1 h2 h3 h4
  exact lv_ixor C.x C.b d (k H locs ls h1 h2 h3 h4)
theorem g_ishl (C : Cx p s m args c cc nL own) {x y : Int32} (d : decode cc pc = .ok (.ishl, 1)) (hp : pc + 1 = pc1)  (k : G p l e R s m args below meth c Q D A nL ws pc1 L (.int (x <<< (y &&& 31)) :: rest)) : G p l e R s m args below meth c Q D A nL ws pc L (.int y :: .int x :: rest) := by
  subst hp
  intro H locs ls h1 h2 h3 h4
  exact lv_ishl C.x C.b d (k H locs ls h1 h2 h3 h4)
theorem g_ishr (C : Cx p s m args c cc nL own) {x y : Int32} (d : decode cc pc = .ok (.ishr, 1)) (hp : pc + 1 = pc1)  (k : G p l e R s m args below meth c Q D A nL ws pc1 L (.int (x >>> (y &&& 31)) :: rest)) : G p l e R s m args below meth c Q D A nL ws pc L (.int y :: .int x :: rest) := by
  subst hp
  intro H locs ls h1 h2 h3 h4
  exact lv_ishr C.x C.b d (k H locs ls h1 h2 h3 h4)
theorem g_idiv (C : Cx p s m args c cc nL own) {x y : Int32} (d : decode cc pc = .ok (.idiv, 1)) (hp : pc + 1 = pc1) (hne : ¬ y = 0) (k : G p l e R s m args below meth c Q D A nL ws pc1 L (.int (x / y) :: rest)) : G p l e R s m args below meth c Q D A nL ws pc L (.int y :: .int x :: rest) := by
  subst hp
  intro H locs ls h1 h2 h3 h4
  exact lv_idiv C.x C.b d hne (k H locs ls h1 h2 h3 h4)
theorem g_irem (C : Cx p s m args c cc nL own) {x y : Int32} (d : decode cc pc = .ok (.irem, 1)) (hp : pc + 1 = pc1) (hne : ¬ y = 0) (k : G p l e R s m args below meth c Q D A nL ws pc1 L (.int (x - x / y * y) :: rest)) : G p l e R s m args below meth c Q D A nL ws pc L (.int y :: .int x :: rest) := by
  subst hp
  intro H locs ls h1 h2 h3 h4
  exact lv_irem C.x C.b d hne (k H locs ls h1 h2 h3 h4)
theorem g_iushr (C : Cx p s m args c cc nL own) {x y : Int32} (d : decode cc pc = .ok (.iushr, 1)) (hp : pc + 1 = pc1)  (k : G p l e R s m args below meth c Q D A nL ws pc1 L (.int (x.toUInt32 >>> (y.toUInt32 &&& Int32.toUInt32 31)).toInt32 :: rest)) : G p l e R s m args below meth c Q D A nL ws pc L (.int y :: .int x :: rest) := by
  subst hp
  intro H locs ls h1 h2 h3 h4
  exact lv_iushr C.x C.b d rfl (k H locs ls h1 h2 h3 h4)
theorem g_ineg (C : Cx p s m args c cc nL own) {x : Int32} (d : decode cc pc = .ok (.ineg, 1)) (hp : pc + 1 = pc1)  (k : G p l e R s m args below meth c Q D A nL ws pc1 L (.int (-x) :: rest)) : G p l e R s m args below meth c Q D A nL ws pc L (.int x :: rest) := by
  subst hp
  intro H locs ls h1 h2 h3 h4
  exact lv_ineg C.x C.b d (k H locs ls h1 h2 h3 h4)
theorem g_ladd (C : Cx p s m args c cc nL own) {x y : Int64} (d : decode cc pc = .ok (.ladd, 1)) (hp : pc + 1 = pc1)  (k : G p l e R s m args below meth c Q D A nL ws pc1 L (.long (x + y) :: rest)) : G p l e R s m args below meth c Q D A nL ws pc L (.long y :: .long x :: rest) := by
  subst hp
  intro H locs ls h1 h2 h3 h4
  exact lv_ladd C.x C.b d (k H locs ls h1 h2 h3 h4)
theorem g_lsub (C : Cx p s m args c cc nL own) {x y : Int64} (d : decode cc pc = .ok (.lsub, 1)) (hp : pc + 1 = pc1)  (k : G p l e R s m args below meth c Q D A nL ws pc1 L (.long (x - y) :: rest)) : G p l e R s m args below meth c Q D A nL ws pc L (.long y :: .long x :: rest) := by
  subst hp
  intro H locs ls h1 h2 h3 h4
  exact lv_lsub C.x C.b d (k H locs ls h1 h2 h3 h4)
theorem g_lmul (C : Cx p s m args c cc nL own) {x y : Int64} (d : decode cc pc = .ok (.lmul, 1)) (hp : pc + 1 = pc1)  (k : G p l e R s m args below meth c Q D A nL ws pc1 L (.long (x * y) :: rest)) : G p l e R s m args below meth c Q D A nL ws pc L (.long y :: .long x :: rest) := by
  subst hp
  intro H locs ls h1 h2 h3 h4
  exact lv_lmul C.x C.b d (k H locs ls h1 h2 h3 h4)
theorem g_ldiv (C : Cx p s m args c cc nL own) {x y : Int64} (d : decode cc pc = .ok (.ldiv, 1)) (hp : pc + 1 = pc1) (hne : ¬ y = 0) (k : G p l e R s m args below meth c Q D A nL ws pc1 L (.long (x / y) :: rest)) : G p l e R s m args below meth c Q D A nL ws pc L (.long y :: .long x :: rest) := by
  subst hp
  intro H locs ls h1 h2 h3 h4
  exact lv_ldiv C.x C.b d hne (k H locs ls h1 h2 h3 h4)
theorem g_lrem (C : Cx p s m args c cc nL own) {x y : Int64} (d : decode cc pc = .ok (.lrem, 1)) (hp : pc + 1 = pc1) (hne : ¬ y = 0) (k : G p l e R s m args below meth c Q D A nL ws pc1 L (.long (x - x / y * y) :: rest)) : G p l e R s m args below meth c Q D A nL ws pc L (.long y :: .long x :: rest) := by
  subst hp
  intro H locs ls h1 h2 h3 h4
  exact lv_lrem C.x C.b d hne (k H locs ls h1 h2 h3 h4)
theorem g_lneg (C : Cx p s m args c cc nL own) {x : Int64} (d : decode cc pc = .ok (.lneg, 1)) (hp : pc + 1 = pc1)  (k : G p l e R s m args below meth c Q D A nL ws pc1 L (.long (-x) :: rest)) : G p l e R s m args below meth c Q D A nL ws pc L (.long x :: rest) := by
  subst hp
  intro H locs ls h1 h2 h3 h4
  exact lv_lneg C.x C.b d (k H locs ls h1 h2 h3 h4)
theorem g_i2l (C : Cx p s m args c cc nL own) {x : Int32} (d : decode cc pc = .ok (.i2l, 1)) (hp : pc + 1 = pc1)  (k : G p l e R s m args below meth c Q D A nL ws pc1 L (.long x.toInt64 :: rest)) : G p l e R s m args below meth c Q D A nL ws pc L (.int x :: rest) := by
  subst hp
  intro H locs ls h1 h2 h3 h4
  exact lv_i2l C.x C.b d rfl (k H locs ls h1 h2 h3 h4)
theorem g_l2i (C : Cx p s m args c cc nL own) {x : Int64} (d : decode cc pc = .ok (.l2i, 1)) (hp : pc + 1 = pc1)  (k : G p l e R s m args below meth c Q D A nL ws pc1 L (.int x.toInt32 :: rest)) : G p l e R s m args below meth c Q D A nL ws pc L (.long x :: rest) := by
  subst hp
  intro H locs ls h1 h2 h3 h4
  exact lv_l2i C.x C.b d rfl (k H locs ls h1 h2 h3 h4)
theorem g_i2b (C : Cx p s m args c cc nL own) {x : Int32} (d : decode cc pc = .ok (.i2b, 1)) (hp : pc + 1 = pc1)  (k : G p l e R s m args below meth c Q D A nL ws pc1 L (.int x.toInt8.toInt32 :: rest)) : G p l e R s m args below meth c Q D A nL ws pc L (.int x :: rest) := by
  subst hp
  intro H locs ls h1 h2 h3 h4
  exact lv_i2b C.x C.b d rfl (k H locs ls h1 h2 h3 h4)
theorem g_i2c (C : Cx p s m args c cc nL own) {x : Int32} (d : decode cc pc = .ok (.i2c, 1)) (hp : pc + 1 = pc1)  (k : G p l e R s m args below meth c Q D A nL ws pc1 L (.int (x.toUInt32 % 65536).toInt32 :: rest)) : G p l e R s m args below meth c Q D A nL ws pc L (.int x :: rest) := by
  subst hp
  intro H locs ls h1 h2 h3 h4
  exact lv_i2c C.x C.b d rfl (k H locs ls h1 h2 h3 h4)
theorem g_lcmp (C : Cx p s m args c cc nL own) {x y : Int64} (d : decode cc pc = .ok (.lcmp, 1)) (hp : pc + 1 = pc1)  (k : G p l e R s m args below meth c Q D A nL ws pc1 L (.int (lg_cmp x y) :: rest)) : G p l e R s m args below meth c Q D A nL ws pc L (.long y :: .long x :: rest) := by
  subst hp
  intro H locs ls h1 h2 h3 h4
  exact W.lcmp C.x C.b d (k H locs ls h1 h2 h3 h4)
theorem g_dup (C : Cx p s m args c cc nL own) {va : Value} (d : decode cc pc = .ok (.dup, 1)) (hp : pc + 1 = pc1) (hv : va.category = 1) (k : G p l e R s m args below meth c Q D A nL ws pc1 L (va :: va :: rest)) : G p l e R s m args below meth c Q D A nL ws pc L (va :: rest) := by
  subst hp
  intro H locs ls h1 h2 h3 h4
  exact lv_dup C.x C.b d hv (k H locs ls h1 h2 h3 h4)
theorem g_pop (C : Cx p s m args c cc nL own) {va : Value} (d : decode cc pc = .ok (.pop, 1)) (hp : pc + 1 = pc1) (hv : va.category = 1) (k : G p l e R s m args below meth c Q D A nL ws pc1 L (rest)) : G p l e R s m args below meth c Q D A nL ws pc L (va :: rest) := by
  subst hp
  intro H locs ls h1 h2 h3 h4
  exact lv_pop C.x C.b d hv (k H locs ls h1 h2 h3 h4)
theorem g_dup2 (C : Cx p s m args c cc nL own) {va vb : Value} (d : decode cc pc = .ok (.dup2, 1)) (hp : pc + 1 = pc1) (hv : va.category = 1) (hv2 : vb.category = 1) (k : G p l e R s m args below meth c Q D A nL ws pc1 L (va :: vb :: va :: vb :: rest)) : G p l e R s m args below meth c Q D A nL ws pc L (va :: vb :: rest) := by
  subst hp
  intro H locs ls h1 h2 h3 h4
  exact lv_dup2_11 C.x C.b d hv hv2 (k H locs ls h1 h2 h3 h4)
theorem g_dup_x1 (C : Cx p s m args c cc nL own) {va vb : Value} (d : decode cc pc = .ok (.dup_x1, 1)) (hp : pc + 1 = pc1) (hv : va.category = 1) (hv2 : vb.category = 1) (k : G p l e R s m args below meth c Q D A nL ws pc1 L (va :: vb :: va :: rest)) : G p l e R s m args below meth c Q D A nL ws pc L (va :: vb :: rest) := by
  subst hp
  intro H locs ls h1 h2 h3 h4
  exact lv_dup_x1 C.x C.b d hv hv2 (k H locs ls h1 h2 h3 h4)
theorem g_if_eq (C : Cx p s m args c cc nL own) {x : Int32} {off : Int} (tgt : Nat) (d : decode cc pc = .ok (.ifCond .eq off, 3)) (hp : pc + 3 = pc1) (ht : (pc : Int) + off = (tgt : Int)) (kt : x = 0 → G p l e R s m args below meth c Q D A nL ws tgt L rest) (kf : ¬ x = 0 → G p l e R s m args below meth c Q D A nL ws pc1 L rest) : G p l e R s m args below meth c Q D A nL ws pc L (.int x :: rest) := by
  subst hp
  intro H locs ls h1 h2 h3 h4
  exact lv_if_eq C.x C.b d ht (fun q => kt q H locs ls h1 h2 h3 h4) (fun q => kf q H locs ls h1 h2 h3 h4)
theorem g_icmp_eq (C : Cx p s m args c cc nL own) {x y : Int32} {off : Int} (tgt : Nat) (d : decode cc pc = .ok (.if_icmp .eq off, 3)) (hp : pc + 3 = pc1) (ht : (pc : Int) + off = (tgt : Int)) (kt : x = y → G p l e R s m args below meth c Q D A nL ws tgt L rest) (kf : ¬ x = y → G p l e R s m args below meth c Q D A nL ws pc1 L rest) : G p l e R s m args below meth c Q D A nL ws pc L (.int y :: .int x :: rest) := by
  subst hp
  intro H locs ls h1 h2 h3 h4
  exact lv_icmp_eq C.x C.b d ht (fun q => kt q H locs ls h1 h2 h3 h4) (fun q => kf q H locs ls h1 h2 h3 h4)
theorem g_if_ne (C : Cx p s m args c cc nL own) {x : Int32} {off : Int} (tgt : Nat) (d : decode cc pc = .ok (.ifCond .ne off, 3)) (hp : pc + 3 = pc1) (ht : (pc : Int) + off = (tgt : Int)) (kt : ¬ x = 0 → G p l e R s m args below meth c Q D A nL ws tgt L rest) (kf : x = 0 → G p l e R s m args below meth c Q D A nL ws pc1 L rest) : G p l e R s m args below meth c Q D A nL ws pc L (.int x :: rest) := by
  subst hp
  intro H locs ls h1 h2 h3 h4
  exact lv_if_ne C.x C.b d ht (fun q => kt q H locs ls h1 h2 h3 h4) (fun q => kf q H locs ls h1 h2 h3 h4)
theorem g_icmp_ne (C : Cx p s m args c cc nL own) {x y : Int32} {off : Int} (tgt : Nat) (d : decode cc pc = .ok (.if_icmp .ne off, 3)) (hp : pc + 3 = pc1) (ht : (pc : Int) + off = (tgt : Int)) (kt : ¬ x = y → G p l e R s m args below meth c Q D A nL ws tgt L rest) (kf : x = y → G p l e R s m args below meth c Q D A nL ws pc1 L rest) : G p l e R s m args below meth c Q D A nL ws pc L (.int y :: .int x :: rest) := by
  subst hp
  intro H locs ls h1 h2 h3 h4
  exact lv_icmp_ne C.x C.b d ht (fun q => kt q H locs ls h1 h2 h3 h4) (fun q => kf q H locs ls h1 h2 h3 h4)
theorem g_if_lt (C : Cx p s m args c cc nL own) {x : Int32} {off : Int} (tgt : Nat) (d : decode cc pc = .ok (.ifCond .lt off, 3)) (hp : pc + 3 = pc1) (ht : (pc : Int) + off = (tgt : Int)) (kt : x < 0 → G p l e R s m args below meth c Q D A nL ws tgt L rest) (kf : ¬ x < 0 → G p l e R s m args below meth c Q D A nL ws pc1 L rest) : G p l e R s m args below meth c Q D A nL ws pc L (.int x :: rest) := by
  subst hp
  intro H locs ls h1 h2 h3 h4
  exact lv_if_lt C.x C.b d ht (fun q => kt q H locs ls h1 h2 h3 h4) (fun q => kf q H locs ls h1 h2 h3 h4)
theorem g_icmp_lt (C : Cx p s m args c cc nL own) {x y : Int32} {off : Int} (tgt : Nat) (d : decode cc pc = .ok (.if_icmp .lt off, 3)) (hp : pc + 3 = pc1) (ht : (pc : Int) + off = (tgt : Int)) (kt : x < y → G p l e R s m args below meth c Q D A nL ws tgt L rest) (kf : ¬ x < y → G p l e R s m args below meth c Q D A nL ws pc1 L rest) : G p l e R s m args below meth c Q D A nL ws pc L (.int y :: .int x :: rest) := by
  subst hp
  intro H locs ls h1 h2 h3 h4
  exact lv_icmp_lt C.x C.b d ht (fun q => kt q H locs ls h1 h2 h3 h4) (fun q => kf q H locs ls h1 h2 h3 h4)
theorem g_if_ge (C : Cx p s m args c cc nL own) {x : Int32} {off : Int} (tgt : Nat) (d : decode cc pc = .ok (.ifCond .ge off, 3)) (hp : pc + 3 = pc1) (ht : (pc : Int) + off = (tgt : Int)) (kt : 0 ≤ x → G p l e R s m args below meth c Q D A nL ws tgt L rest) (kf : ¬ 0 ≤ x → G p l e R s m args below meth c Q D A nL ws pc1 L rest) : G p l e R s m args below meth c Q D A nL ws pc L (.int x :: rest) := by
  subst hp
  intro H locs ls h1 h2 h3 h4
  exact lv_if_ge C.x C.b d ht (fun q => kt q H locs ls h1 h2 h3 h4) (fun q => kf q H locs ls h1 h2 h3 h4)
theorem g_icmp_ge (C : Cx p s m args c cc nL own) {x y : Int32} {off : Int} (tgt : Nat) (d : decode cc pc = .ok (.if_icmp .ge off, 3)) (hp : pc + 3 = pc1) (ht : (pc : Int) + off = (tgt : Int)) (kt : y ≤ x → G p l e R s m args below meth c Q D A nL ws tgt L rest) (kf : ¬ y ≤ x → G p l e R s m args below meth c Q D A nL ws pc1 L rest) : G p l e R s m args below meth c Q D A nL ws pc L (.int y :: .int x :: rest) := by
  subst hp
  intro H locs ls h1 h2 h3 h4
  exact lv_icmp_ge C.x C.b d ht (fun q => kt q H locs ls h1 h2 h3 h4) (fun q => kf q H locs ls h1 h2 h3 h4)
theorem g_if_gt (C : Cx p s m args c cc nL own) {x : Int32} {off : Int} (tgt : Nat) (d : decode cc pc = .ok (.ifCond .gt off, 3)) (hp : pc + 3 = pc1) (ht : (pc : Int) + off = (tgt : Int)) (kt : 0 < x → G p l e R s m args below meth c Q D A nL ws tgt L rest) (kf : ¬ 0 < x → G p l e R s m args below meth c Q D A nL ws pc1 L rest) : G p l e R s m args below meth c Q D A nL ws pc L (.int x :: rest) := by
  subst hp
  intro H locs ls h1 h2 h3 h4
  exact lv_if_gt C.x C.b d ht (fun q => kt q H locs ls h1 h2 h3 h4) (fun q => kf q H locs ls h1 h2 h3 h4)
theorem g_icmp_gt (C : Cx p s m args c cc nL own) {x y : Int32} {off : Int} (tgt : Nat) (d : decode cc pc = .ok (.if_icmp .gt off, 3)) (hp : pc + 3 = pc1) (ht : (pc : Int) + off = (tgt : Int)) (kt : y < x → G p l e R s m args below meth c Q D A nL ws tgt L rest) (kf : ¬ y < x → G p l e R s m args below meth c Q D A nL ws pc1 L rest) : G p l e R s m args below meth c Q D A nL ws pc L (.int y :: .int x :: rest) := by
  subst hp
  intro H locs ls h1 h2 h3 h4
  exact lv_icmp_gt C.x C.b d ht (fun q => kt q H locs ls h1 h2 h3 h4) (fun q => kf q H locs ls h1 h2 h3 h4)
theorem g_if_le (C : Cx p s m args c cc nL own) {x : Int32} {off : Int} (tgt : Nat) (d : decode cc pc = .ok (.ifCond .le off, 3)) (hp : pc + 3 = pc1) (ht : (pc : Int) + off = (tgt : Int)) (kt : x ≤ 0 → G p l e R s m args below meth c Q D A nL ws tgt L rest) (kf : ¬ x ≤ 0 → G p l e R s m args below meth c Q D A nL ws pc1 L rest) : G p l e R s m args below meth c Q D A nL ws pc L (.int x :: rest) := by
  subst hp
  intro H locs ls h1 h2 h3 h4
  exact lv_if_le C.x C.b d ht (fun q => kt q H locs ls h1 h2 h3 h4) (fun q => kf q H locs ls h1 h2 h3 h4)
theorem g_icmp_le (C : Cx p s m args c cc nL own) {x y : Int32} {off : Int} (tgt : Nat) (d : decode cc pc = .ok (.if_icmp .le off, 3)) (hp : pc + 3 = pc1) (ht : (pc : Int) + off = (tgt : Int)) (kt : x ≤ y → G p l e R s m args below meth c Q D A nL ws tgt L rest) (kf : ¬ x ≤ y → G p l e R s m args below meth c Q D A nL ws pc1 L rest) : G p l e R s m args below meth c Q D A nL ws pc L (.int y :: .int x :: rest) := by
  subst hp
  intro H locs ls h1 h2 h3 h4
  exact lv_icmp_le C.x C.b d ht (fun q => kt q H locs ls h1 h2 h3 h4) (fun q => kf q H locs ls h1 h2 h3 h4)
theorem g_goto (C : Cx p s m args c cc nL own) {off : Int} (tgt : Nat) (d : decode cc pc = .ok (.goto off, 3)) (ht : (pc : Int) + off = (tgt : Int)) (k : G p l e R s m args below meth c Q D A nL ws tgt L st) : G p l e R s m args below meth c Q D A nL ws pc L st := by
  intro H locs ls h1 h2 h3 h4
  exact lv_goto C.x C.b d ht (k H locs ls h1 h2 h3 h4)
theorem g_tblIn (C : Cx p s m args c cc nL own) {dflt lo hi : Int} {offs : Array Int} {len : Nat} {x : Int32} {off : Int} (tgt : Nat) (d : decode cc pc = .ok (.tableswitch dflt lo hi offs, len)) (z : Int) (hz : x.toInt = z) (g1 : ¬ z < lo) (g2 : ¬ hi < z) (ho : offs[(z - lo).toNat]? = some off) (ht : (pc : Int) + off = (tgt : Int)) (k : G p l e R s m args below meth c Q D A nL ws tgt L rest) : G p l e R s m args below meth c Q D A nL ws pc L (.int x :: rest) := by
  subst hz
  intro H locs ls h1 h2 h3 h4
  exact lv_tableIn C.x C.b d g1 g2 ho ht (k H locs ls h1 h2 h3 h4)
theorem g_tblOut (C : Cx p s m args c cc nL own) {dflt lo hi : Int} {offs : Array Int} {len : Nat} {x : Int32} (tgt : Nat) (d : decode cc pc = .ok (.tableswitch dflt lo hi offs, len)) (g1 : x.toInt < lo ∨ hi < x.toInt) (ht : (pc : Int) + dflt = (tgt : Int)) (k : G p l e R s m args below meth c Q D A nL ws tgt L rest) : G p l e R s m args below meth c Q D A nL ws pc L (.int x :: rest) := by
  intro H locs ls h1 h2 h3 h4
  exact lv_tableOut C.x C.b d g1 ht (k H locs ls h1 h2 h3 h4)
theorem g_look (C : Cx p s m args c cc nL own) {dflt : Int} {ps : Array (Int × Int)} {len : Nat} {x : Int32} {off : Int} (tgt : Nat) (d : decode cc pc = .ok (.lookupswitch dflt ps, len)) (hs : (ps.toList.zip (ps.toList.drop 1)).all (fun (a, next) => a.1 < next.1) = true) (ho : Op.lookupswitch.offset ps.toList dflt x.toInt = off) (ht : (pc : Int) + off = (tgt : Int)) (k : G p l e R s m args below meth c Q D A nL ws tgt L rest) : G p l e R s m args below meth c Q D A nL ws pc L (.int x :: rest) := by
  intro H locs ls h1 h2 h3 h4
  exact lv_lookup C.x C.b d hs ho ht (k H locs ls h1 h2 h3 h4)
/-- fewer locals known -/
theorem g_sub (ks : List Nat) (hl : lv_pick L ks = L1) (k : G p l e R s m args below meth c Q D A nL ws pc L1 st) : G p l e R s m args below meth c Q D A nL ws pc L st := fun H locs ls h1 h2 h3 h4 => k H locs ls h1 h2 h3 (lv_sub h4 ks hl)
/-- the world by another name -/
theorem g_ws {ws1 : va_W} (hw : ws = ws1) (k : G p l e R s m args below meth c Q D A nL ws1 pc L st) : G p l e R s m args below meth c Q D A nL ws pc L st := hw ▸ k
def Qi (A : Nat → Prop) (D : va_G) (ws1 : va_W) (r : Int32) : Array Value → State → Outcome → State → Prop := va_Qi (fun (r1 : Int32) (_ : Unit) => r1 = r) (fun _ t => va_P D classes ws1 t.heap ∧ va_D A ws1) A
def Ql (A : Nat → Prop) (D : va_G) (ws1 : va_W) (r : Int64) : Array Value → State → Outcome → State → Prop := va_Ql (fun (r1 : Int64) (_ : Unit) => r1 = r) (fun _ t => va_P D classes ws1 t.heap ∧ va_D A ws1) A
def Qv (A : Nat → Prop) (D : va_G) (ws1 : va_W) : Array Value → State → Outcome → State → Prop := va_Qv (fun (_ : Unit) => True) (fun _ t => va_P D classes ws1 t.heap ∧ va_D A ws1) A
def Qr (A : Nat → Prop) (D : va_G) (ws1 : va_W) (b : Nat) : Array Value → State → Outcome → State → Prop := va_Qr (fun (_ : Unit) => True) (fun _ q t => q = b ∧ va_P D classes ws1 t.heap ∧ va_D A ws1) A
def PcW (D : va_G) (cs : Nat → ClassId) (A : Nat → Prop) (ws : va_W) : State → Prop := fun U => va_P D classes ws U.heap ∧ va_K D classes (tys cs) U ∧ Nst U ∧ va_D A ws
theorem g_iret (C : Cx p s m args c cc nL own) {ws1 : va_W} (hr : meth.sig.returnType = some .int) (hlk : meth.locks = false) {v r : Int32} (d : decode cc pc = .ok (.ireturn, 1)) (hv : v = r) (hP : ws = ws1) : G p l e R s m args below meth c (MQ below (Qi A D ws1 r) args s 0 0 A) D A nL ws pc L [.int v] := by
  subst hv; subst hP
  intro H locs ls h1 h2 h3 h4
  exact W.iret C.x C.b hr (fun t ht _ => ⟨⟨v, (), rfl, rfl, by rw [ht]; exact h1, h2⟩, h3.F ht⟩) h3.2.2 d hlk
theorem g_zret (C : Cx p s m args c cc nL own) {ws1 : va_W} {ty : FieldType} (hr : meth.sig.returnType = some ty) (hlk : meth.locks = false) {v r : Int32} (hn : narrow ty (.int v) = .int v) (d : decode cc pc = .ok (.ireturn, 1)) (hv : v = r) (hP : ws = ws1) : G p l e R s m args below meth c (MQ below (Qi A D ws1 r) args s 0 0 A) D A nL ws pc L [.int v] := by
  subst hv; subst hP
  intro H locs ls h1 h2 h3 h4
  exact W.zret C.x C.b hr hn (fun t ht _ => ⟨⟨v, (), rfl, rfl, by rw [ht]; exact h1, h2⟩, h3.F ht⟩) h3.2.2 d hlk
theorem g_lret (C : Cx p s m args c cc nL own) {ws1 : va_W} (hr : meth.sig.returnType = some .long) (hlk : meth.locks = false) {v r : Int64} (d : decode cc pc = .ok (.lreturn, 1)) (hv : v = r) (hP : ws = ws1) : G p l e R s m args below meth c (MQ below (Ql A D ws1 r) args s 0 0 A) D A nL ws pc L [.long v] := by
  subst hv; subst hP
  intro H locs ls h1 h2 h3 h4
  exact W.lret C.x C.b hr (fun t ht _ => ⟨⟨v, (), rfl, rfl, by rw [ht]; exact h1, h2⟩, h3.F ht⟩) h3.2.2 d hlk
theorem g_vret (C : Cx p s m args c cc nL own) {ws1 : va_W} (hr : meth.sig.returnType = none) (hlk : meth.locks = false) (d : decode cc pc = .ok (.return_, 1)) (hP : ws = ws1) : G p l e R s m args below meth c (MQ below (Qv A D ws1) args s 0 0 A) D A nL ws pc L [] := by
  subst hP
  intro H locs ls h1 h2 h3 h4
  exact W.vret C.x C.b hr (fun t ht _ => ⟨⟨(), rfl, trivial, by rw [ht]; exact h1, h2⟩, h3.F ht⟩) h3.2.2 d hlk
theorem g_aret (C : Cx p s m args c cc nL own) {ws1 : va_W} {n : String} (hr : meth.sig.returnType = some (.object n)) (hlk : meth.locks = false) {v r : Nat} (d : decode cc pc = .ok (.areturn, 1)) (hv : v = r) (hP : ws = ws1) : G p l e R s m args below meth c (MQ below (Qr A D ws1 r) args s 0 0 A) D A nL ws pc L [.ref v] := by
  subst hv; subst hP
  intro H locs ls h1 h2 h3 h4
  exact W.aret C.x C.b hr (Or.inl ⟨n, rfl⟩) (Or.inr ⟨v, rfl⟩) (fun t ht _ => ⟨⟨(), v, rfl, trivial, rfl, by rw [ht]; exact h1, h2⟩, h3.F ht⟩) h3.2.2 d hlk
theorem met_of {l : Launch} {y : MethodName} {own : String} {cc : ByteArray} {maxL : Nat} {ret : Option FieldType} {rm : Room} {D : va_G} {cs : Nat → ClassId} {A : Nat → Prop} {ws : va_W} {av : List Value} {Qc : Array Value → State → Outcome → State → Prop} (hy : y.cls = own) (hpl : plainName own = true) (hsz : (lg_sl av).length ≤ maxL)
    (body : ∀ p e s m below meth c, Cx p s m av.toArray c cc maxL own → va_K D classes (tys cs) s → meth.sig.returnType = ret → meth.locks = false → G p l e rm s m av.toArray below meth c (MQ below Qc av.toArray s 0 0 A) D A maxL ws 0 (lv_args 0 av) []) : Met l y (.code y cc maxL ret :: TT) rm (va_Pc av (PcW D cs A ws)) Qc 0 0 A := by
  refine Met.ofW (cc := cc) (maxL := maxL) (ret := ret) (by rw [hy]; exact hpl) rfl ?_
  intro p e s m args below meth c s₁ B hml hv
  obtain ⟨rfl, hP, hK, hN, hD⟩ := hv
  have hts := atoms_spec (ws := .code y cc maxL ret :: TT) B.pre
  have hown : s.vm.findClass own = some m.cls := by rw [← hy]; exact findClass_of_methodNamed B.named
  have hl := lv_entry av (n := maxL) hsz
  rw [lg_entry_eq]
  exact body p e s m below meth c ⟨B.exec, B.bytes, hml, hown, fun w h => hts w (List.mem_cons_of_mem _ h), hN⟩ hK B.returns B.notSynchronized s.heap [] _ hP hD va_S.rf hl
theorem met_ofS {l : Launch} {y : MethodName} {own : String} {cc : ByteArray} {maxL : Nat} {ret : Option FieldType} {rm : Room} {av : List Value} {Qc : Array Value → State → Outcome → State → Prop} (hy : y.cls = own) (hpl : plainName own = true) (hsz : (lg_sl av).length ≤ maxL)
    (body : ∀ p e s m below meth c, Cx p s m av.toArray c cc maxL own → meth.sig.returnType = ret → meth.locks = false → G p l e rm s m av.toArray below meth c (MQ below Qc av.toArray s 0 0 (fun _ => False)) (fun _ => 0, fun _ _ => 0) (fun _ => False) maxL [] 0 (lv_args 0 av) []) : Met l y (.code y cc maxL ret :: TT) rm (va_Pc av Nst) Qc 0 0 (fun _ => False) := by
  refine Met.ofW (cc := cc) (maxL := maxL) (ret := ret) (by rw [hy]; exact hpl) rfl ?_
  intro p e s m args below meth c s₁ B hml hv
  obtain ⟨rfl, hN⟩ := hv
  have hts := atoms_spec (ws := .code y cc maxL ret :: TT) B.pre
  have hown : s.vm.findClass own = some m.cls := by rw [← hy]; exact findClass_of_methodNamed B.named
  have hl := lv_entry av (n := maxL) hsz
  rw [lg_entry_eq]
  exact body p e s m below meth c ⟨B.exec, B.bytes, hml, hown, fun w h => hts w (List.mem_cons_of_mem _ h), hN⟩ B.returns B.notSynchronized s.heap [] _ (fun k q h => by simp at h) ⟨fun i j p q h => by simp at h, fun k q h => by simp at h⟩ va_S.rf hl
/-- what a call needs of its callee's name -/
def SY (y : MethodName) (bytes : ByteArray) (maxL : Nat) (ret : Option FieldType) (n : Nat) : Prop := Cond.code y bytes maxL ret ∈ TT ∧ Cond.static y ∈ TT ∧ Cond.initialized y.cls ∈ TT ∧ (y.cls ≠ "java/lang/invoke/MethodHandle" ∧ y.cls ≠ "java/lang/invoke/VarHandle" ∧ (parseMethodDescriptor y.desc).map (fun d => d.parameters.length) = some n)
def VY (y : MethodName) (bytes : ByteArray) (maxL : Nat) (ret : Option FieldType) (n : Nat) : Prop := Cond.code y bytes maxL ret ∈ TT ∧ Cond.instanceMethod y ∈ TT ∧ Cond.selects y.cls y y ∈ TT ∧ Cond.initialized y.cls ∈ TT ∧ (y.cls ≠ "java/lang/invoke/MethodHandle" ∧ y.cls ≠ "java/lang/invoke/VarHandle" ∧ (parseMethodDescriptor y.desc).map (fun d => d.parameters.length) = some n)
/-- the contracts, by their answers -/
abbrev SetI (l : Launch) (y : MethodName) (cc : ByteArray) (nL : Nat) (rt : Option FieldType) (rm : Room) (av : List Value) (r : Int32) : Prop := Met l y (.code y cc nL rt :: TT) rm (va_Pc av Nst) (Qi (fun _ => False) (fun _ => 0, fun _ _ => 0) [] r) 0 0 (fun _ => False)
abbrev SetL (l : Launch) (y : MethodName) (cc : ByteArray) (nL : Nat) (rt : Option FieldType) (rm : Room) (av : List Value) (r : Int64) : Prop := Met l y (.code y cc nL rt :: TT) rm (va_Pc av Nst) (Ql (fun _ => False) (fun _ => 0, fun _ _ => 0) [] r) 0 0 (fun _ => False)
abbrev MetI (l : Launch) (y : MethodName) (cc : ByteArray) (nL : Nat) (rt : Option FieldType) (rm : Room) (D : va_G) (cs : Nat → ClassId) (A : Nat → Prop) (ws : va_W) (av : List Value) (r : Int32) (ws1 : va_W) : Prop := Met l y (.code y cc nL rt :: TT) rm (va_Pc av (PcW D cs A ws)) (Qi A D ws1 r) 0 0 A
abbrev MetL (l : Launch) (y : MethodName) (cc : ByteArray) (nL : Nat) (rt : Option FieldType) (rm : Room) (D : va_G) (cs : Nat → ClassId) (A : Nat → Prop) (ws : va_W) (av : List Value) (r : Int64) (ws1 : va_W) : Prop := Met l y (.code y cc nL rt :: TT) rm (va_Pc av (PcW D cs A ws)) (Ql A D ws1 r) 0 0 A
abbrev MetV (l : Launch) (y : MethodName) (cc : ByteArray) (nL : Nat) (rt : Option FieldType) (rm : Room) (D : va_G) (cs : Nat → ClassId) (A : Nat → Prop) (ws : va_W) (av : List Value) (ws1 : va_W) : Prop := Met l y (.code y cc nL rt :: TT) rm (va_Pc av (PcW D cs A ws)) (Qv A D ws1) 0 0 A
abbrev MetR (l : Launch) (y : MethodName) (cc : ByteArray) (nL : Nat) (rt : Option FieldType) (rm : Room) (D : va_G) (cs : Nat → ClassId) (A : Nat → Prop) (ws : va_W) (av : List Value) (b : Nat) (ws1 : va_W) : Prop := Met l y (.code y cc nL rt :: TT) rm (va_Pc av (PcW D cs A ws)) (Qr A D ws1 b) 0 0 A
theorem blindN {av : List Value} : FrameBlind (va_Pc av Nst) := fun _ _ _ _ q => ⟨q.1, Nst.same rfl q.2⟩
theorem blindW {av : List Value} {cs : Nat → ClassId} : FrameBlind (va_Pc av (PcW D cs A ws)) := fun a U g mk q => ⟨q.1, q.2.1, va_K.moved (u := U) (U := U.calling g mk a) (Vm.Alike.refl U.vm) q.2.2.1, Nst.same rfl q.2.2.2.1, q.2.2.2.2⟩
theorem blind0 {B : State → Prop} {av : List Value} (hB : ∀ (a : Array Value) (U : State) (g : JFrame) (mk : MethodId), B U → B (U.calling g mk a)) : FrameBlind (va_Pc av B) := fun a U g mk q => ⟨q.1, hB a U g mk q.2⟩
theorem g_callSI (C : Cx p s m args c cc nL own) {y : MethodName} {bytes : ByteArray} {maxL idx : Nat} {rt : Option FieldType} {rm : Room} {As : List Value} {r : Int32} (n : Nat) (hM : SetI l y bytes maxL rt rm As r) (S : SY y bytes maxL rt n) (hl : Cond.methodLink own idx y ∈ TT) (hn : As.length = n) (hR : rm.frames + 1 ≤ R.frames ∧ 8 + (maxL + 11) + rm.locals ≤ R.locals) (hz : rm.cells = 0 ∧ rm.slots = 0) (d : decode cc pc = .ok (.invokestatic idx, 3)) (hp : pc + 3 = pc1) (hst : st = As.reverse ++ rest) (hW : (rest.map fun v => v.category).sum ≤ 8) (k : G p l e R s m args below meth c Q D A nL ws pc1 L (.int r :: rest)) : G p l e R s m args below meth c Q D A nL ws pc L st := by
  subst hp
  intro H locs ls h1 h2 h3 h4
  refine va_calli (A1 := fun _ => False) (va_runS ⟨C.x, C.b, C.ml, C.own, C.ts⟩ hM ⟨callB_of n C.ts (TT_inc S.1) rfl hz.1 hz.2 (C.ts _ S.2.2.1) (C.ts _ hl) S.2.2.2 hR, C.ts _ S.2.1⟩ ⟨blindN, fun U hU hW => ⟨rfl, Nst.warm hW C.n⟩⟩ rfl hn h4.1 hst (lv_room hW) d ⟨by omega, by omega⟩) h3 (fun _ _ h => h.elim) (fun _ h => h.elim) (fun r1 u t H1 locs1 ht hvm hw hB hz1 hk1 hS => ?_)
  subst hw
  exact k H1 locs1 ls (h1.kept (fun i q hi => hk1 q.1 (h1 i q hi).lt (fun h => h))) h2 hS h4
theorem g_callNI (C : Cx p s m args c cc nL own) {y : MethodName} {bytes : ByteArray} {maxL idx : Nat} {rt : Option FieldType} {rm : Room} {As : List Value} {r : Int32} (n : Nat) (hM : SetI l y bytes maxL rt rm As r) (S : SY y bytes maxL rt n) {host : String} (ni : Nat) (hl : NNl[ni]? = some (own, idx, y, host)) (hn : As.length = n) (hR : rm.frames + 1 ≤ R.frames ∧ 8 + (maxL + 11) + rm.locals ≤ R.locals) (hz : rm.cells = 0 ∧ rm.slots = 0) (d : decode cc pc = .ok (.invokestatic idx, 3)) (hp : pc + 3 = pc1) (hst : st = As.reverse ++ rest) (hW : (rest.map fun v => v.category).sum ≤ 8) (k : G p l e R s m args below meth c Q D A nL ws pc1 L (.int r :: rest)) : G p l e R s m args below meth c Q D A nL ws pc L st := by
  subst hp
  intro H locs ls h1 h2 h3 h4
  refine va_calli (A1 := fun _ => False) (va_runSN ⟨C.x, C.b, C.ml, C.own, C.ts⟩ hM ⟨va_cnB n C.ts (TT_inc S.1) rfl hz.1 hz.2 (C.n.at ni hl) (C.ts _ S.2.2.1) S.2.2.2 hR, C.ts _ S.2.1, trivial⟩ ⟨blindN, fun U hU hW => ⟨rfl, Nst.warm hW C.n⟩⟩ rfl hn h4.1 hst (lv_room hW) d ⟨by omega, by omega⟩) h3 (fun _ _ h => h.elim) (fun _ h => h.elim) (fun r1 u t H1 locs1 ht hvm hw hB hz1 hk1 hS => ?_)
  subst hw
  exact k H1 locs1 ls (h1.kept (fun i q hi => hk1 q.1 (h1 i q hi).lt (fun h => h))) h2 hS h4
theorem g_callSL (C : Cx p s m args c cc nL own) {y : MethodName} {bytes : ByteArray} {maxL idx : Nat} {rt : Option FieldType} {rm : Room} {As : List Value} {r : Int64} (n : Nat) (hM : SetL l y bytes maxL rt rm As r) (S : SY y bytes maxL rt n) (hl : Cond.methodLink own idx y ∈ TT) (hn : As.length = n) (hR : rm.frames + 1 ≤ R.frames ∧ 8 + (maxL + 11) + rm.locals ≤ R.locals) (hz : rm.cells = 0 ∧ rm.slots = 0) (d : decode cc pc = .ok (.invokestatic idx, 3)) (hp : pc + 3 = pc1) (hst : st = As.reverse ++ rest) (hW : (rest.map fun v => v.category).sum ≤ 8) (k : G p l e R s m args below meth c Q D A nL ws pc1 L (.long r :: rest)) : G p l e R s m args below meth c Q D A nL ws pc L st := by
  subst hp
  intro H locs ls h1 h2 h3 h4
  refine va_calll (A1 := fun _ => False) (va_runS ⟨C.x, C.b, C.ml, C.own, C.ts⟩ hM ⟨callB_of n C.ts (TT_inc S.1) rfl hz.1 hz.2 (C.ts _ S.2.2.1) (C.ts _ hl) S.2.2.2 hR, C.ts _ S.2.1⟩ ⟨blindN, fun U hU hW => ⟨rfl, Nst.warm hW C.n⟩⟩ rfl hn h4.1 hst (lv_room hW) d ⟨by omega, by omega⟩) h3 (fun _ _ h => h.elim) (fun _ h => h.elim) (fun r1 u t H1 locs1 ht hvm hw hB hz1 hk1 hS => ?_)
  subst hw
  exact k H1 locs1 ls (h1.kept (fun i q hi => hk1 q.1 (h1 i q hi).lt (fun h => h))) h2 hS h4
theorem g_callNL (C : Cx p s m args c cc nL own) {y : MethodName} {bytes : ByteArray} {maxL idx : Nat} {rt : Option FieldType} {rm : Room} {As : List Value} {r : Int64} (n : Nat) (hM : SetL l y bytes maxL rt rm As r) (S : SY y bytes maxL rt n) {host : String} (ni : Nat) (hl : NNl[ni]? = some (own, idx, y, host)) (hn : As.length = n) (hR : rm.frames + 1 ≤ R.frames ∧ 8 + (maxL + 11) + rm.locals ≤ R.locals) (hz : rm.cells = 0 ∧ rm.slots = 0) (d : decode cc pc = .ok (.invokestatic idx, 3)) (hp : pc + 3 = pc1) (hst : st = As.reverse ++ rest) (hW : (rest.map fun v => v.category).sum ≤ 8) (k : G p l e R s m args below meth c Q D A nL ws pc1 L (.long r :: rest)) : G p l e R s m args below meth c Q D A nL ws pc L st := by
  subst hp
  intro H locs ls h1 h2 h3 h4
  refine va_calll (A1 := fun _ => False) (va_runSN ⟨C.x, C.b, C.ml, C.own, C.ts⟩ hM ⟨va_cnB n C.ts (TT_inc S.1) rfl hz.1 hz.2 (C.n.at ni hl) (C.ts _ S.2.2.1) S.2.2.2 hR, C.ts _ S.2.1, trivial⟩ ⟨blindN, fun U hU hW => ⟨rfl, Nst.warm hW C.n⟩⟩ rfl hn h4.1 hst (lv_room hW) d ⟨by omega, by omega⟩) h3 (fun _ _ h => h.elim) (fun _ h => h.elim) (fun r1 u t H1 locs1 ht hvm hw hB hz1 hk1 hS => ?_)
  subst hw
  exact k H1 locs1 ls (h1.kept (fun i q hi => hk1 q.1 (h1 i q hi).lt (fun h => h))) h2 hS h4
theorem g_callVI (C : Cx p s m args c cc nL own) {cs : Nat → ClassId} (hK : va_K D classes (tys cs) s) {y : MethodName} {bytes : ByteArray} {maxL idx b ci N : Nat} {T : u_T} {fs : List Value} {rt : Option FieldType} {rm : Room} {As : List Value} {r : Int32} {ws1 : va_W} (n : Nat) (hM : MetI l y bytes maxL rt rm D cs A ws (.ref b :: As) r ws1) (S : VY y bytes maxL rt n) (hl : Cond.methodLink own idx y ∈ TT) (q0 : Nat) (he : ws[q0]? = some (b, .inr (ci, fs))) (hci : classes[ci]? = some (y.cls, T, N)) (hn : As.length = n) (hR : rm.frames + 1 ≤ R.frames ∧ 8 + (maxL + 11) + rm.locals ≤ R.locals) (hz : rm.cells = 0 ∧ rm.slots = 0) (d : decode cc pc = .ok (.invokevirtual idx, 3)) (hp : pc + 3 = pc1) (hst : st = As.reverse ++ .ref b :: rest) (hW : (rest.map fun v => v.category).sum ≤ 8) (k : G p l e R s m args below meth c Q D A nL ws1 pc1 L (.int r :: rest)) : G p l e R s m args below meth c Q D A nL ws pc L st := by
  subst hp
  intro H locs ls h1 h2 h3 h4
  refine va_calli (A1 := A) (va_runV ⟨C.x, C.b, C.ml, C.own, C.ts⟩ hM ⟨callB_of n C.ts (TT_inc S.1) rfl hz.1 hz.2 (C.ts _ S.2.2.2.1) (C.ts _ hl) S.2.2.2.2 hR, C.ts _ S.2.1, C.ts _ S.2.2.1⟩ ⟨blindW, va_recv hK h1 hci he, fun U hU hW => ⟨rfl, by rw [hU]; exact h1, va_K.moved hW.alike hK, Nst.warm hW C.n, h2⟩⟩ rfl hn h4.1 hst (lv_room hW) d ⟨by omega, by omega⟩) h3 (fun _ _ h => h) (fun _ h => h) (fun r1 u t H1 locs1 ht hvm hw hB hz1 hk1 hS => ?_)
  subst hw
  exact k H1 locs1 ls (ht ▸ hB.1) hB.2 hS h4
theorem g_callVL (C : Cx p s m args c cc nL own) {cs : Nat → ClassId} (hK : va_K D classes (tys cs) s) {y : MethodName} {bytes : ByteArray} {maxL idx b ci N : Nat} {T : u_T} {fs : List Value} {rt : Option FieldType} {rm : Room} {As : List Value} {r : Int64} {ws1 : va_W} (n : Nat) (hM : MetL l y bytes maxL rt rm D cs A ws (.ref b :: As) r ws1) (S : VY y bytes maxL rt n) (hl : Cond.methodLink own idx y ∈ TT) (q0 : Nat) (he : ws[q0]? = some (b, .inr (ci, fs))) (hci : classes[ci]? = some (y.cls, T, N)) (hn : As.length = n) (hR : rm.frames + 1 ≤ R.frames ∧ 8 + (maxL + 11) + rm.locals ≤ R.locals) (hz : rm.cells = 0 ∧ rm.slots = 0) (d : decode cc pc = .ok (.invokevirtual idx, 3)) (hp : pc + 3 = pc1) (hst : st = As.reverse ++ .ref b :: rest) (hW : (rest.map fun v => v.category).sum ≤ 8) (k : G p l e R s m args below meth c Q D A nL ws1 pc1 L (.long r :: rest)) : G p l e R s m args below meth c Q D A nL ws pc L st := by
  subst hp
  intro H locs ls h1 h2 h3 h4
  refine va_calll (A1 := A) (va_runV ⟨C.x, C.b, C.ml, C.own, C.ts⟩ hM ⟨callB_of n C.ts (TT_inc S.1) rfl hz.1 hz.2 (C.ts _ S.2.2.2.1) (C.ts _ hl) S.2.2.2.2 hR, C.ts _ S.2.1, C.ts _ S.2.2.1⟩ ⟨blindW, va_recv hK h1 hci he, fun U hU hW => ⟨rfl, by rw [hU]; exact h1, va_K.moved hW.alike hK, Nst.warm hW C.n, h2⟩⟩ rfl hn h4.1 hst (lv_room hW) d ⟨by omega, by omega⟩) h3 (fun _ _ h => h) (fun _ h => h) (fun r1 u t H1 locs1 ht hvm hw hB hz1 hk1 hS => ?_)
  subst hw
  exact k H1 locs1 ls (ht ▸ hB.1) hB.2 hS h4
theorem g_callVV (C : Cx p s m args c cc nL own) {cs : Nat → ClassId} (hK : va_K D classes (tys cs) s) {y : MethodName} {bytes : ByteArray} {maxL idx b ci N : Nat} {T : u_T} {fs : List Value} {rt : Option FieldType} {rm : Room} {As : List Value}  {ws1 : va_W} (n : Nat) (hM : MetV l y bytes maxL rt rm D cs A ws (.ref b :: As) ws1) (S : VY y bytes maxL rt n) (hl : Cond.methodLink own idx y ∈ TT) (q0 : Nat) (he : ws[q0]? = some (b, .inr (ci, fs))) (hci : classes[ci]? = some (y.cls, T, N)) (hn : As.length = n) (hR : rm.frames + 1 ≤ R.frames ∧ 8 + (maxL + 11) + rm.locals ≤ R.locals) (hz : rm.cells = 0 ∧ rm.slots = 0) (d : decode cc pc = .ok (.invokevirtual idx, 3)) (hp : pc + 3 = pc1) (hst : st = As.reverse ++ .ref b :: rest) (hW : (rest.map fun v => v.category).sum ≤ 8) (k : G p l e R s m args below meth c Q D A nL ws1 pc1 L rest) : G p l e R s m args below meth c Q D A nL ws pc L st := by
  subst hp
  intro H locs ls h1 h2 h3 h4
  refine va_callv (A1 := A) (va_runV ⟨C.x, C.b, C.ml, C.own, C.ts⟩ hM ⟨callB_of n C.ts (TT_inc S.1) rfl hz.1 hz.2 (C.ts _ S.2.2.2.1) (C.ts _ hl) S.2.2.2.2 hR, C.ts _ S.2.1, C.ts _ S.2.2.1⟩ ⟨blindW, va_recv hK h1 hci he, fun U hU hW => ⟨rfl, by rw [hU]; exact h1, va_K.moved hW.alike hK, Nst.warm hW C.n, h2⟩⟩ rfl hn h4.1 hst (lv_room hW) d ⟨by omega, by omega⟩) h3 (fun _ _ h => h) (fun _ h => h) (fun u t H1 locs1 ht hvm hw hB hz1 hk1 hS => ?_)
  exact k H1 locs1 ls (ht ▸ hB.1) hB.2 hS h4
theorem g_callVR (C : Cx p s m args c cc nL own) {cs : Nat → ClassId} (hK : va_K D classes (tys cs) s) {y : MethodName} {bytes : ByteArray} {maxL idx b ci N : Nat} {T : u_T} {fs : List Value} {rt : Option FieldType} {rm : Room} {As : List Value} {r : Nat} {ws1 : va_W} (n : Nat) (hM : MetR l y bytes maxL rt rm D cs A ws (.ref b :: As) r ws1) (S : VY y bytes maxL rt n) (hl : Cond.methodLink own idx y ∈ TT) (q0 : Nat) (he : ws[q0]? = some (b, .inr (ci, fs))) (hci : classes[ci]? = some (y.cls, T, N)) (hn : As.length = n) (hR : rm.frames + 1 ≤ R.frames ∧ 8 + (maxL + 11) + rm.locals ≤ R.locals) (hz : rm.cells = 0 ∧ rm.slots = 0) (d : decode cc pc = .ok (.invokevirtual idx, 3)) (hp : pc + 3 = pc1) (hst : st = As.reverse ++ .ref b :: rest) (hW : (rest.map fun v => v.category).sum ≤ 8) (k : G p l e R s m args below meth c Q D A nL ws1 pc1 L (.ref r :: rest)) : G p l e R s m args below meth c Q D A nL ws pc L st := by
  subst hp
  intro H locs ls h1 h2 h3 h4
  refine va_callr (A1 := A) (va_runV ⟨C.x, C.b, C.ml, C.own, C.ts⟩ hM ⟨callB_of n C.ts (TT_inc S.1) rfl hz.1 hz.2 (C.ts _ S.2.2.2.1) (C.ts _ hl) S.2.2.2.2 hR, C.ts _ S.2.1, C.ts _ S.2.2.1⟩ ⟨blindW, va_recv hK h1 hci he, fun U hU hW => ⟨rfl, by rw [hU]; exact h1, va_K.moved hW.alike hK, Nst.warm hW C.n, h2⟩⟩ rfl hn h4.1 hst (lv_room hW) d ⟨by omega, by omega⟩) h3 (fun _ _ h => h) (fun _ h => h) (fun u ra t H1 locs1 ht hvm hw hB hz1 hk1 hS => ?_)
  obtain ⟨hq, hB1, hB2⟩ := hB
  subst hq
  exact k H1 locs1 ls (ht ▸ hB1) hB2 hS h4
def Fr (A A1 : Nat → Prop) (ws wc wc1 ws1 : va_W) : Prop := (∀ q, A1 q → A q) ∧ (∀ q, A1 q → q ∈ wc.map (fun q => q.1)) ∧ (∃ is : List Nat, is.filterMap (fun i => ws[i]?) = wc) ∧ (va_D A ws → va_D A1 wc) ∧ (va_D A ws → va_D A ws1) ∧ ∀ (D : va_G) (H H1 : Heap), va_P D classes ws H → va_D A ws → (∀ q : Nat, q < H.size → q ∉ wc.map (fun q => q.1) → H1[q]? = H[q]?) → va_P D classes wc1 H1 → va_P D classes ws1 H1
theorem g_callFI (C : Cx p s m args c cc nL own) {cs : Nat → ClassId} (hK : va_K D classes (tys cs) s) {y : MethodName} {bytes : ByteArray} {maxL idx b ci N : Nat} {T : u_T} {fs : List Value} {rt : Option FieldType} {rm : Room} {As : List Value} {r : Int32} {ws1 wc wc1 : va_W} {A1 : Nat → Prop} (n : Nat) (F : Fr A A1 ws wc wc1 ws1) (hM : MetI l y bytes maxL rt rm D cs A1 wc (.ref b :: As) r wc1) (S : VY y bytes maxL rt n) (hl : Cond.methodLink own idx y ∈ TT) (q0 : Nat) (he : ws[q0]? = some (b, .inr (ci, fs))) (hci : classes[ci]? = some (y.cls, T, N)) (hn : As.length = n) (hR : rm.frames + 1 ≤ R.frames ∧ 8 + (maxL + 11) + rm.locals ≤ R.locals) (hz : rm.cells = 0 ∧ rm.slots = 0) (d : decode cc pc = .ok (.invokevirtual idx, 3)) (hp : pc + 3 = pc1) (hst : st = As.reverse ++ .ref b :: rest) (hW : (rest.map fun v => v.category).sum ≤ 8) (k : G p l e R s m args below meth c Q D A nL ws1 pc1 L (.int r :: rest)) : G p l e R s m args below meth c Q D A nL ws pc L st := by
  subst hp
  intro H locs ls h1 h2 h3 h4
  obtain ⟨f1, f1', ⟨is, f2⟩, f3, f4, f5⟩ := F
  refine va_calli (A1 := A1) (va_runV ⟨C.x, C.b, C.ml, C.own, C.ts⟩ hM ⟨callB_of n C.ts (TT_inc S.1) rfl hz.1 hz.2 (C.ts _ S.2.2.2.1) (C.ts _ hl) S.2.2.2.2 hR, C.ts _ S.2.1, C.ts _ S.2.2.1⟩ ⟨blindW, va_recv hK h1 hci he, fun U hU hW => ⟨rfl, by rw [hU]; exact h1.sub is f2, va_K.moved hW.alike hK, Nst.warm hW C.n, f3 h2⟩⟩ rfl hn h4.1 hst (lv_room hW) d ⟨by omega, by omega⟩) h3 (fun _ _ h => f1 _ h) (fun _ h => f1 _ h) (fun r1 u t H1 locs1 ht hvm hw hB hz1 hk1 hS => ?_)
  subst hw
  exact k H1 locs1 ls (f5 D H H1 h1 h2 (fun q hq hn => hk1 q hq (fun hA => hn (f1' q hA))) (ht ▸ hB.1)) (f4 h2) hS h4
theorem g_callFV (C : Cx p s m args c cc nL own) {cs : Nat → ClassId} (hK : va_K D classes (tys cs) s) {y : MethodName} {bytes : ByteArray} {maxL idx b ci N : Nat} {T : u_T} {fs : List Value} {rt : Option FieldType} {rm : Room} {As : List Value}  {ws1 wc wc1 : va_W} {A1 : Nat → Prop} (n : Nat) (F : Fr A A1 ws wc wc1 ws1) (hM : MetV l y bytes maxL rt rm D cs A1 wc (.ref b :: As) wc1) (S : VY y bytes maxL rt n) (hl : Cond.methodLink own idx y ∈ TT) (q0 : Nat) (he : ws[q0]? = some (b, .inr (ci, fs))) (hci : classes[ci]? = some (y.cls, T, N)) (hn : As.length = n) (hR : rm.frames + 1 ≤ R.frames ∧ 8 + (maxL + 11) + rm.locals ≤ R.locals) (hz : rm.cells = 0 ∧ rm.slots = 0) (d : decode cc pc = .ok (.invokevirtual idx, 3)) (hp : pc + 3 = pc1) (hst : st = As.reverse ++ .ref b :: rest) (hW : (rest.map fun v => v.category).sum ≤ 8) (k : G p l e R s m args below meth c Q D A nL ws1 pc1 L rest) : G p l e R s m args below meth c Q D A nL ws pc L st := by
  subst hp
  intro H locs ls h1 h2 h3 h4
  obtain ⟨f1, f1', ⟨is, f2⟩, f3, f4, f5⟩ := F
  refine va_callv (A1 := A1) (va_runV ⟨C.x, C.b, C.ml, C.own, C.ts⟩ hM ⟨callB_of n C.ts (TT_inc S.1) rfl hz.1 hz.2 (C.ts _ S.2.2.2.1) (C.ts _ hl) S.2.2.2.2 hR, C.ts _ S.2.1, C.ts _ S.2.2.1⟩ ⟨blindW, va_recv hK h1 hci he, fun U hU hW => ⟨rfl, by rw [hU]; exact h1.sub is f2, va_K.moved hW.alike hK, Nst.warm hW C.n, f3 h2⟩⟩ rfl hn h4.1 hst (lv_room hW) d ⟨by omega, by omega⟩) h3 (fun _ _ h => f1 _ h) (fun _ h => f1 _ h) (fun u t H1 locs1 ht hvm hw hB hz1 hk1 hS => ?_)
  exact k H1 locs1 ls (f5 D H H1 h1 h2 (fun q hq hn => hk1 q hq (fun hA => hn (f1' q hA))) (ht ▸ hB.1)) (f4 h2) hS h4
theorem Fr.of {A A1 : Nat → Prop} {ws wc wc1 ws1 : va_W} (isC isR pm : List Nat) (wr : va_W) (hA : ∀ q, A1 q → A q) (hA1 : ∀ q, A1 q → q ∈ wc.map (fun q => q.1)) (hA2 : ∀ (k : Nat) (q : Nat × va_E), wc[k]? = some q → A1 q.1) (hC : isC.map (fun i => ws[i]?) = wc.map some) (hCf : isC.filterMap (fun i => ws[i]?) = wc) (hn : va_nd isC = true) (hR : isR.map (fun i => ws[i]?) = wr.map some) (hdis : ∀ i ∈ isR, i ∉ isC) (hpm : pm.filterMap (fun i => (wr ++ wc1)[i]?) = ws1) (had : ws1.map (fun q => q.1) = ws.map (fun q => q.1)) : Fr A A1 ws wc wc1 ws1 :=
  ⟨hA, hA1, ⟨isC, hCf⟩, fun h => (h.sub isC hn hC).weaken (fun k q hk _ => hA2 k q hk), fun h => D_adr h had, fun _ _ _ h1 h2 h3 h4 => (my_join h1 h2 isC isR hC hR hdis h3 h4).sub pm hpm⟩
variable {cs : Nat → ClassId} {a : Nat}
theorem g_iald (C : Cx p s m args c cc nL own) (hK : va_K D classes (tys cs) s) (q0 : Nat) {n : Nat} {f : Nat → Int32} (ha : ws[q0]? = some (a, .inl (cs 0, n, .inl f))) {i : Int32} (hin : inb i n = true) (d : decode cc pc = .ok (.iaload, 1)) (hp : pc + 1 = pc1) (k : G p l e R s m args below meth c Q D A nL ws pc1 L (.int (f i.toNatClampNeg) :: rest)) : G p l e R s m args below meth c Q D A nL ws pc L (.int i :: .ref a :: rest) := by
  subst hp
  intro H locs ls h1 h2 h3 h4
  exact va_iald C.x C.b hK h1 q0 0 ha rfl (inb_in hin) d (k H locs ls h1 h2 h3 h4)
theorem g_bald (C : Cx p s m args c cc nL own) (hK : va_K D classes (tys cs) s) (q0 : Nat) {n : Nat} {f : Nat → Int32} (ha : ws[q0]? = some (a, .inl (cs 1, n, .inl f))) {i : Int32} (hin : inb i n = true) (d : decode cc pc = .ok (.baload, 1)) (hp : pc + 1 = pc1) (k : G p l e R s m args below meth c Q D A nL ws pc1 L (.int (f i.toNatClampNeg) :: rest)) : G p l e R s m args below meth c Q D A nL ws pc L (.int i :: .ref a :: rest) := by
  subst hp
  intro H locs ls h1 h2 h3 h4
  exact va_bald C.x C.b hK h1 q0 1 ha rfl (inb_in hin) d (k H locs ls h1 h2 h3 h4)
theorem g_zald (C : Cx p s m args c cc nL own) (hK : va_K D classes (tys cs) s) (q0 : Nat) {n : Nat} {f : Nat → Int32} (ha : ws[q0]? = some (a, .inl (cs 2, n, .inl f))) {i : Int32} (hin : inb i n = true) (d : decode cc pc = .ok (.baload, 1)) (hp : pc + 1 = pc1) (k : G p l e R s m args below meth c Q D A nL ws pc1 L (.int (f i.toNatClampNeg) :: rest)) : G p l e R s m args below meth c Q D A nL ws pc L (.int i :: .ref a :: rest) := by
  subst hp
  intro H locs ls h1 h2 h3 h4
  exact va_zald C.x C.b hK h1 q0 2 ha rfl (inb_in hin) d (k H locs ls h1 h2 h3 h4)
theorem g_aald (C : Cx p s m args c cc nL own) (hK : va_K D classes (tys cs) s) (q0 : Nat) {n : Nat} {f : Nat → Option Nat} {v : Nat} (ha : ws[q0]? = some (a, .inl (cs 3, n, .inr (.inr (.inr (.inr f)))))) {i : Int32} (hin : inb i n = true) (hv : f i.toNatClampNeg = some v) (d : decode cc pc = .ok (.aaload, 1)) (hp : pc + 1 = pc1) (k : G p l e R s m args below meth c Q D A nL ws pc1 L (.ref v :: rest)) : G p l e R s m args below meth c Q D A nL ws pc L (.int i :: .ref a :: rest) := by
  subst hp
  intro H locs ls h1 h2 h3 h4
  exact va_aldq C.x C.b hK h1 q0 3 ha rfl (inb_in hin) d (by rw [hv]; exact k H locs ls h1 h2 h3 h4)
theorem g_iast (C : Cx p s m args c cc nL own) (hK : va_K D classes (tys cs) s) (q0 : Nat) {ws1 : va_W} {n : Nat} {f : Nat → Int32} (ha : ws[q0]? = some (a, .inl (cs 0, n, .inl f))) {i x : Int32} (hin : inb i n = true) (hw : ws.set q0 (a, .inl (cs 0, n, .inl (upd f i.toNatClampNeg x))) = ws1) (d : decode cc pc = .ok (.iastore, 1)) (hp : pc + 1 = pc1) (k : G p l e R s m args below meth c Q D A nL ws1 pc1 L rest) : G p l e R s m args below meth c Q D A nL ws pc L (.int x :: .int i :: .ref a :: rest) := by
  subst hp; subst hw
  intro H locs ls h1 h2 h3 h4
  exact va_iast C.x C.b hK h1 h2 h3 q0 0 ha rfl (inb_in hin) d (fun H1 locs1 g1 g2 g3 => k H1 locs1 ls g1 g2 g3 h4)
theorem g_bast (C : Cx p s m args c cc nL own) (hK : va_K D classes (tys cs) s) (q0 : Nat) {ws1 : va_W} {n : Nat} {f : Nat → Int32} (ha : ws[q0]? = some (a, .inl (cs 1, n, .inl f))) {i x : Int32} (hin : inb i n = true) (hw : ws.set q0 (a, .inl (cs 1, n, .inl (upd f i.toNatClampNeg (vp_nar .byte x)))) = ws1) (d : decode cc pc = .ok (.bastore, 1)) (hp : pc + 1 = pc1) (k : G p l e R s m args below meth c Q D A nL ws1 pc1 L rest) : G p l e R s m args below meth c Q D A nL ws pc L (.int x :: .int i :: .ref a :: rest) := by
  subst hp; subst hw
  intro H locs ls h1 h2 h3 h4
  exact va_bast C.x C.b hK h1 h2 h3 q0 1 ha rfl (inb_in hin) d (fun H1 locs1 g1 g2 g3 => k H1 locs1 ls g1 g2 g3 h4)
theorem g_zast (C : Cx p s m args c cc nL own) (hK : va_K D classes (tys cs) s) (q0 : Nat) {ws1 : va_W} {n : Nat} {f : Nat → Int32} (ha : ws[q0]? = some (a, .inl (cs 2, n, .inl f))) {i x : Int32} (hin : inb i n = true) (hw : ws.set q0 (a, .inl (cs 2, n, .inl (upd f i.toNatClampNeg (vp_nar .boolean x)))) = ws1) (d : decode cc pc = .ok (.bastore, 1)) (hp : pc + 1 = pc1) (k : G p l e R s m args below meth c Q D A nL ws1 pc1 L rest) : G p l e R s m args below meth c Q D A nL ws pc L (.int x :: .int i :: .ref a :: rest) := by
  subst hp; subst hw
  intro H locs ls h1 h2 h3 h4
  exact va_zast C.x C.b hK h1 h2 h3 q0 2 ha rfl (inb_in hin) d (fun H1 locs1 g1 g2 g3 => k H1 locs1 ls g1 g2 g3 h4)
theorem g_alen (C : Cx p s m args c cc nL own) (hK : va_K D classes (tys cs) s) (q0 t0 : Nat) {cA : ClassId} {x : vp_A} {ty : FieldType} (ha : ws[q0]? = some (a, .inl (cA, x))) (ht : (tys cs)[t0]? = some (cA, ty)) {v : Int32} (hv : Int32.ofNat x.1 = v) (d : decode cc pc = .ok (.arraylength, 1)) (hp : pc + 1 = pc1) (k : G p l e R s m args below meth c Q D A nL ws pc1 L (.int v :: rest)) : G p l e R s m args below meth c Q D A nL ws pc L (.ref a :: rest) := by
  subst hp
  intro H locs ls h1 h2 h3 h4
  exact va_alen C.x C.b hK h1 q0 t0 ha ht hv d (k H locs ls h1 h2 h3 h4)
theorem g_copy (C : Cx p s m args c cc nL own) (hK : va_K D classes (tys cs) s) (q0 q1 : Nat) {idx a0 : Nat} {ws1 : va_W} {n0 n1 : Nat} {f g : Nat → Int32} (hl : Cond.methodLink own idx arraycopyName ∈ TT) (hnat : Cond.native arraycopyName ∈ TT) (hstat : Cond.static arraycopyName ∈ TT) (hini : Cond.initialized "java/lang/System" ∈ TT) (ha0 : ws[q0]? = some (a0, .inl (cs 0, n0, .inl f))) (ha1 : ws[q1]? = some (a, .inl (cs 0, n1, .inl g))) {sp dp n : Int32} (b1 : ¬ sp < 0) (b2 : ¬ dp < 0) (b3 : ¬ n < 0) (b4 : sp.toNatClampNeg + n.toNatClampNeg ≤ n0) (b5 : dp.toNatClampNeg + n.toNatClampNeg ≤ n1) (hf : 1 ≤ R.frames) (hL : (rest.map fun v => v.category).sum + (nativeFrameWords "java/lang/System" "arraycopy" 5 + 11) ≤ R.locals) (hw : ws.set q1 (a, .inl (cs 0, n1, .inl (va_cpy f g sp.toNatClampNeg dp.toNatClampNeg n.toNatClampNeg))) = ws1) (d : decode cc pc = .ok (.invokestatic idx, 3)) (hp : pc + 3 = pc1) (k : G p l e R s m args below meth c Q D A nL ws1 pc1 L rest) : G p l e R s m args below meth c Q D A nL ws pc L (.int n :: .int dp :: .ref a :: .int sp :: .ref a0 :: rest) := by
  subst hp; subst hw
  intro H locs ls h1 h2 h3 h4
  exact va_copyi C.x C.b (C.ml.trans h4.1.symm) C.own (C.ts _ hl) (C.ts _ hnat) (C.ts _ hstat) (C.ts _ hini) hK h1 h2 h3 q0 q1 0 0 ha0 ha1 rfl rfl rfl b1 b2 b3 b4 b5 (fun _ _ => rfl) hf hL d (fun H1 locs1 g1 g2 g3 => k H1 locs1 ls g1 g2 g3 h4)
variable {ad : Nat → Nat} {μ : Mem}
theorem get_WF_0_pegs (C : Cx p s m args c cc nL own) (hK : va_K D classes (tys cs) s) {idx : Nat} {v : Int32} (hv : μ.1 0 0 = v) (hl : Cond.fieldLink own idx "TentPegs$Field" "pegs" "I" ∈ TT) (d : decode cc pc = .ok (.getfield idx, 3)) (hp : pc + 3 = pc1) (k : G p l e R s m args below meth c Q D A nL (WF ad cs μ) pc1 L (.int v :: rest)) : G p l e R s m args below meth c Q D A nL (WF ad cs μ) pc L (.ref (ad 0) :: rest) := by
  subst hp
  subst hv
  intro H locs ls h1 h2 h3 h4
  exact va_get C.x C.b C.ts in_F C.own hK h1 0 rfl rfl 0 (by decide) (C.ts _ hl) (fun _ h => h) rfl d (k H locs ls h1 h2 h3 h4)
theorem put_WF_0_pegs (C : Cx p s m args c cc nL own) (hK : va_K D classes (tys cs) s) {idx : Nat} {v : Int32} (hl : Cond.fieldLink own idx "TentPegs$Field" "pegs" "I" ∈ TT) (d : decode cc pc = .ok (.putfield idx, 3)) (hp : pc + 3 = pc1) (k : G p l e R s m args below meth c Q D A nL (WF ad cs (stI μ 0 0 v)) pc1 L rest) : G p l e R s m args below meth c Q D A nL (WF ad cs μ) pc L (.int v :: .ref (ad 0) :: rest) := by
  subst hp
  intro H locs ls h1 h2 h3 h4
  exact va_put C.x C.b C.ts in_F ty_F ok_F nm_F C.own hK h1 h2 h3 0 rfl rfl 0 (by decide) (C.ts _ hl) (fun _ h => h) rfl (ok_F 0 (by decide)) rfl rfl (Nat.le_of_ble_eq_true rfl) d (fun H1 locs1 g1 g2 g3 => k H1 locs1 ls g1 g2 g3 h4)
theorem get_WF_0_wetness (C : Cx p s m args c cc nL own) (hK : va_K D classes (tys cs) s) {idx : Nat} {v : Int32} (hv : μ.1 0 1 = v) (hl : Cond.fieldLink own idx "TentPegs$Field" "wetness" "I" ∈ TT) (d : decode cc pc = .ok (.getfield idx, 3)) (hp : pc + 3 = pc1) (k : G p l e R s m args below meth c Q D A nL (WF ad cs μ) pc1 L (.int v :: rest)) : G p l e R s m args below meth c Q D A nL (WF ad cs μ) pc L (.ref (ad 0) :: rest) := by
  subst hp
  subst hv
  intro H locs ls h1 h2 h3 h4
  exact va_get C.x C.b C.ts in_F C.own hK h1 0 rfl rfl 1 (by decide) (C.ts _ hl) (fun _ h => h) rfl d (k H locs ls h1 h2 h3 h4)
theorem put_WF_0_wetness (C : Cx p s m args c cc nL own) (hK : va_K D classes (tys cs) s) {idx : Nat} {v : Int32} (hl : Cond.fieldLink own idx "TentPegs$Field" "wetness" "I" ∈ TT) (d : decode cc pc = .ok (.putfield idx, 3)) (hp : pc + 3 = pc1) (k : G p l e R s m args below meth c Q D A nL (WF ad cs (stI μ 0 1 v)) pc1 L rest) : G p l e R s m args below meth c Q D A nL (WF ad cs μ) pc L (.int v :: .ref (ad 0) :: rest) := by
  subst hp
  intro H locs ls h1 h2 h3 h4
  exact va_put C.x C.b C.ts in_F ty_F ok_F nm_F C.own hK h1 h2 h3 0 rfl rfl 1 (by decide) (C.ts _ hl) (fun _ h => h) rfl (ok_F 1 (by decide)) rfl rfl (Nat.le_of_ble_eq_true rfl) d (fun H1 locs1 g1 g2 g3 => k H1 locs1 ls g1 g2 g3 h4)
theorem get_WF_0_walls (C : Cx p s m args c cc nL own) (hK : va_K D classes (tys cs) s) {idx : Nat} {v : Int32} (hv : μ.1 0 2 = v) (hl : Cond.fieldLink own idx "TentPegs$Field" "walls" "I" ∈ TT) (d : decode cc pc = .ok (.getfield idx, 3)) (hp : pc + 3 = pc1) (k : G p l e R s m args below meth c Q D A nL (WF ad cs μ) pc1 L (.int v :: rest)) : G p l e R s m args below meth c Q D A nL (WF ad cs μ) pc L (.ref (ad 0) :: rest) := by
  subst hp
  subst hv
  intro H locs ls h1 h2 h3 h4
  exact va_get C.x C.b C.ts in_F C.own hK h1 0 rfl rfl 2 (by decide) (C.ts _ hl) (fun _ h => h) rfl d (k H locs ls h1 h2 h3 h4)
theorem put_WF_0_walls (C : Cx p s m args c cc nL own) (hK : va_K D classes (tys cs) s) {idx : Nat} {v : Int32} (hl : Cond.fieldLink own idx "TentPegs$Field" "walls" "I" ∈ TT) (d : decode cc pc = .ok (.putfield idx, 3)) (hp : pc + 3 = pc1) (k : G p l e R s m args below meth c Q D A nL (WF ad cs (stI μ 0 2 v)) pc1 L rest) : G p l e R s m args below meth c Q D A nL (WF ad cs μ) pc L (.int v :: .ref (ad 0) :: rest) := by
  subst hp
  intro H locs ls h1 h2 h3 h4
  exact va_put C.x C.b C.ts in_F ty_F ok_F nm_F C.own hK h1 h2 h3 0 rfl rfl 2 (by decide) (C.ts _ hl) (fun _ h => h) rfl (ok_F 2 (by decide)) rfl rfl (Nat.le_of_ble_eq_true rfl) d (fun H1 locs1 g1 g2 g3 => k H1 locs1 ls g1 g2 g3 h4)
theorem get_WF_0_standing (C : Cx p s m args c cc nL own) (hK : va_K D classes (tys cs) s) {idx : Nat} {v : Int32} (hv : μ.1 0 3 = v) (hl : Cond.fieldLink own idx "TentPegs$Field" "standing" "I" ∈ TT) (d : decode cc pc = .ok (.getfield idx, 3)) (hp : pc + 3 = pc1) (k : G p l e R s m args below meth c Q D A nL (WF ad cs μ) pc1 L (.int v :: rest)) : G p l e R s m args below meth c Q D A nL (WF ad cs μ) pc L (.ref (ad 0) :: rest) := by
  subst hp
  subst hv
  intro H locs ls h1 h2 h3 h4
  exact va_get C.x C.b C.ts in_F C.own hK h1 0 rfl rfl 3 (by decide) (C.ts _ hl) (fun _ h => h) rfl d (k H locs ls h1 h2 h3 h4)
theorem put_WF_0_standing (C : Cx p s m args c cc nL own) (hK : va_K D classes (tys cs) s) {idx : Nat} {v : Int32} (hl : Cond.fieldLink own idx "TentPegs$Field" "standing" "I" ∈ TT) (d : decode cc pc = .ok (.putfield idx, 3)) (hp : pc + 3 = pc1) (k : G p l e R s m args below meth c Q D A nL (WF ad cs (stI μ 0 3 v)) pc1 L rest) : G p l e R s m args below meth c Q D A nL (WF ad cs μ) pc L (.int v :: .ref (ad 0) :: rest) := by
  subst hp
  intro H locs ls h1 h2 h3 h4
  exact va_put C.x C.b C.ts in_F ty_F ok_F nm_F C.own hK h1 h2 h3 0 rfl rfl 3 (by decide) (C.ts _ hl) (fun _ h => h) rfl (ok_F 3 (by decide)) rfl rfl (Nat.le_of_ble_eq_true rfl) d (fun H1 locs1 g1 g2 g3 => k H1 locs1 ls g1 g2 g3 h4)
theorem get_WF_0_undoable (C : Cx p s m args c cc nL own) (hK : va_K D classes (tys cs) s) {idx : Nat} {v : Int32} (hv : μ.1 0 4 = v) (hl : Cond.fieldLink own idx "TentPegs$Field" "undoable" "I" ∈ TT) (d : decode cc pc = .ok (.getfield idx, 3)) (hp : pc + 3 = pc1) (k : G p l e R s m args below meth c Q D A nL (WF ad cs μ) pc1 L (.int v :: rest)) : G p l e R s m args below meth c Q D A nL (WF ad cs μ) pc L (.ref (ad 0) :: rest) := by
  subst hp
  subst hv
  intro H locs ls h1 h2 h3 h4
  exact va_get C.x C.b C.ts in_F C.own hK h1 0 rfl rfl 4 (by decide) (C.ts _ hl) (fun _ h => h) rfl d (k H locs ls h1 h2 h3 h4)
theorem put_WF_0_undoable (C : Cx p s m args c cc nL own) (hK : va_K D classes (tys cs) s) {idx : Nat} {v : Int32} (hl : Cond.fieldLink own idx "TentPegs$Field" "undoable" "I" ∈ TT) (d : decode cc pc = .ok (.putfield idx, 3)) (hp : pc + 3 = pc1) (k : G p l e R s m args below meth c Q D A nL (WF ad cs (stI μ 0 4 v)) pc1 L rest) : G p l e R s m args below meth c Q D A nL (WF ad cs μ) pc L (.int v :: .ref (ad 0) :: rest) := by
  subst hp
  intro H locs ls h1 h2 h3 h4
  exact va_put C.x C.b C.ts in_F ty_F ok_F nm_F C.own hK h1 h2 h3 0 rfl rfl 4 (by decide) (C.ts _ hl) (fun _ h => h) rfl (ok_F 4 (by decide)) rfl rfl (Nat.le_of_ble_eq_true rfl) d (fun H1 locs1 g1 g2 g3 => k H1 locs1 ls g1 g2 g3 h4)
theorem get_WF_0_kinds (C : Cx p s m args c cc nL own) (hK : va_K D classes (tys cs) s) {idx : Nat} (hl : Cond.fieldLink own idx "TentPegs$Field" "kinds" "[I" ∈ TT) (d : decode cc pc = .ok (.getfield idx, 3)) (hp : pc + 3 = pc1) (k : G p l e R s m args below meth c Q D A nL (WF ad cs μ) pc1 L (.ref (ad 1) :: rest)) : G p l e R s m args below meth c Q D A nL (WF ad cs μ) pc L (.ref (ad 0) :: rest) := by
  subst hp
  intro H locs ls h1 h2 h3 h4
  exact va_get C.x C.b C.ts in_F C.own hK h1 0 rfl rfl 5 (by decide) (C.ts _ hl) (fun _ h => h) rfl d (k H locs ls h1 h2 h3 h4)
theorem get_WF_0_depths (C : Cx p s m args c cc nL own) (hK : va_K D classes (tys cs) s) {idx : Nat} (hl : Cond.fieldLink own idx "TentPegs$Field" "depths" "[I" ∈ TT) (d : decode cc pc = .ok (.getfield idx, 3)) (hp : pc + 3 = pc1) (k : G p l e R s m args below meth c Q D A nL (WF ad cs μ) pc1 L (.ref (ad 2) :: rest)) : G p l e R s m args below meth c Q D A nL (WF ad cs μ) pc L (.ref (ad 0) :: rest) := by
  subst hp
  intro H locs ls h1 h2 h3 h4
  exact va_get C.x C.b C.ts in_F C.own hK h1 0 rfl rfl 6 (by decide) (C.ts _ hl) (fun _ h => h) rfl d (k H locs ls h1 h2 h3 h4)
theorem get_WF_0_grounds (C : Cx p s m args c cc nL own) (hK : va_K D classes (tys cs) s) {idx : Nat} (hl : Cond.fieldLink own idx "TentPegs$Field" "grounds" "[I" ∈ TT) (d : decode cc pc = .ok (.getfield idx, 3)) (hp : pc + 3 = pc1) (k : G p l e R s m args below meth c Q D A nL (WF ad cs μ) pc1 L (.ref (ad 3) :: rest)) : G p l e R s m args below meth c Q D A nL (WF ad cs μ) pc L (.ref (ad 0) :: rest) := by
  subst hp
  intro H locs ls h1 h2 h3 h4
  exact va_get C.x C.b C.ts in_F C.own hK h1 0 rfl rfl 7 (by decide) (C.ts _ hl) (fun _ h => h) rfl d (k H locs ls h1 h2 h3 h4)
theorem get_WF_0_chances (C : Cx p s m args c cc nL own) (hK : va_K D classes (tys cs) s) {idx : Nat} (hl : Cond.fieldLink own idx "TentPegs$Field" "chances" "[I" ∈ TT) (d : decode cc pc = .ok (.getfield idx, 3)) (hp : pc + 3 = pc1) (k : G p l e R s m args below meth c Q D A nL (WF ad cs μ) pc1 L (.ref (ad 4) :: rest)) : G p l e R s m args below meth c Q D A nL (WF ad cs μ) pc L (.ref (ad 0) :: rest) := by
  subst hp
  intro H locs ls h1 h2 h3 h4
  exact va_get C.x C.b C.ts in_F C.own hK h1 0 rfl rfl 8 (by decide) (C.ts _ hl) (fun _ h => h) rfl d (k H locs ls h1 h2 h3 h4)
theorem get_WF_0_stoodBefore (C : Cx p s m args c cc nL own) (hK : va_K D classes (tys cs) s) {idx : Nat} (hl : Cond.fieldLink own idx "TentPegs$Field" "stoodBefore" "[I" ∈ TT) (d : decode cc pc = .ok (.getfield idx, 3)) (hp : pc + 3 = pc1) (k : G p l e R s m args below meth c Q D A nL (WF ad cs μ) pc1 L (.ref (ad 5) :: rest)) : G p l e R s m args below meth c Q D A nL (WF ad cs μ) pc L (.ref (ad 0) :: rest) := by
  subst hp
  intro H locs ls h1 h2 h3 h4
  exact va_get C.x C.b C.ts in_F C.own hK h1 0 rfl rfl 9 (by decide) (C.ts _ hl) (fun _ h => h) rfl d (k H locs ls h1 h2 h3 h4)
theorem get_WFF_0_pegs (C : Cx p s m args c cc nL own) (hK : va_K D classes (tys cs) s) {idx : Nat} {v : Int32} (hv : μ.1 0 0 = v) (hl : Cond.fieldLink own idx "TentPegs$Field" "pegs" "I" ∈ TT) (d : decode cc pc = .ok (.getfield idx, 3)) (hp : pc + 3 = pc1) (k : G p l e R s m args below meth c Q D A nL (WFF ad cs μ) pc1 L (.int v :: rest)) : G p l e R s m args below meth c Q D A nL (WFF ad cs μ) pc L (.ref (ad 0) :: rest) := by
  subst hp
  subst hv
  intro H locs ls h1 h2 h3 h4
  exact va_get C.x C.b C.ts in_F C.own hK h1 0 rfl rfl 0 (by decide) (C.ts _ hl) (fun _ h => h) rfl d (k H locs ls h1 h2 h3 h4)
theorem put_WFF_0_pegs (C : Cx p s m args c cc nL own) (hK : va_K D classes (tys cs) s) {idx : Nat} {v : Int32} (hl : Cond.fieldLink own idx "TentPegs$Field" "pegs" "I" ∈ TT) (d : decode cc pc = .ok (.putfield idx, 3)) (hp : pc + 3 = pc1) (k : G p l e R s m args below meth c Q D A nL (WFF ad cs (stI μ 0 0 v)) pc1 L rest) : G p l e R s m args below meth c Q D A nL (WFF ad cs μ) pc L (.int v :: .ref (ad 0) :: rest) := by
  subst hp
  intro H locs ls h1 h2 h3 h4
  exact va_put C.x C.b C.ts in_F ty_F ok_F nm_F C.own hK h1 h2 h3 0 rfl rfl 0 (by decide) (C.ts _ hl) (fun _ h => h) rfl (ok_F 0 (by decide)) rfl rfl (Nat.le_of_ble_eq_true rfl) d (fun H1 locs1 g1 g2 g3 => k H1 locs1 ls g1 g2 g3 h4)
theorem get_WFF_0_wetness (C : Cx p s m args c cc nL own) (hK : va_K D classes (tys cs) s) {idx : Nat} {v : Int32} (hv : μ.1 0 1 = v) (hl : Cond.fieldLink own idx "TentPegs$Field" "wetness" "I" ∈ TT) (d : decode cc pc = .ok (.getfield idx, 3)) (hp : pc + 3 = pc1) (k : G p l e R s m args below meth c Q D A nL (WFF ad cs μ) pc1 L (.int v :: rest)) : G p l e R s m args below meth c Q D A nL (WFF ad cs μ) pc L (.ref (ad 0) :: rest) := by
  subst hp
  subst hv
  intro H locs ls h1 h2 h3 h4
  exact va_get C.x C.b C.ts in_F C.own hK h1 0 rfl rfl 1 (by decide) (C.ts _ hl) (fun _ h => h) rfl d (k H locs ls h1 h2 h3 h4)
theorem put_WFF_0_wetness (C : Cx p s m args c cc nL own) (hK : va_K D classes (tys cs) s) {idx : Nat} {v : Int32} (hl : Cond.fieldLink own idx "TentPegs$Field" "wetness" "I" ∈ TT) (d : decode cc pc = .ok (.putfield idx, 3)) (hp : pc + 3 = pc1) (k : G p l e R s m args below meth c Q D A nL (WFF ad cs (stI μ 0 1 v)) pc1 L rest) : G p l e R s m args below meth c Q D A nL (WFF ad cs μ) pc L (.int v :: .ref (ad 0) :: rest) := by
  subst hp
  intro H locs ls h1 h2 h3 h4
  exact va_put C.x C.b C.ts in_F ty_F ok_F nm_F C.own hK h1 h2 h3 0 rfl rfl 1 (by decide) (C.ts _ hl) (fun _ h => h) rfl (ok_F 1 (by decide)) rfl rfl (Nat.le_of_ble_eq_true rfl) d (fun H1 locs1 g1 g2 g3 => k H1 locs1 ls g1 g2 g3 h4)
theorem get_WFF_0_walls (C : Cx p s m args c cc nL own) (hK : va_K D classes (tys cs) s) {idx : Nat} {v : Int32} (hv : μ.1 0 2 = v) (hl : Cond.fieldLink own idx "TentPegs$Field" "walls" "I" ∈ TT) (d : decode cc pc = .ok (.getfield idx, 3)) (hp : pc + 3 = pc1) (k : G p l e R s m args below meth c Q D A nL (WFF ad cs μ) pc1 L (.int v :: rest)) : G p l e R s m args below meth c Q D A nL (WFF ad cs μ) pc L (.ref (ad 0) :: rest) := by
  subst hp
  subst hv
  intro H locs ls h1 h2 h3 h4
  exact va_get C.x C.b C.ts in_F C.own hK h1 0 rfl rfl 2 (by decide) (C.ts _ hl) (fun _ h => h) rfl d (k H locs ls h1 h2 h3 h4)
theorem put_WFF_0_walls (C : Cx p s m args c cc nL own) (hK : va_K D classes (tys cs) s) {idx : Nat} {v : Int32} (hl : Cond.fieldLink own idx "TentPegs$Field" "walls" "I" ∈ TT) (d : decode cc pc = .ok (.putfield idx, 3)) (hp : pc + 3 = pc1) (k : G p l e R s m args below meth c Q D A nL (WFF ad cs (stI μ 0 2 v)) pc1 L rest) : G p l e R s m args below meth c Q D A nL (WFF ad cs μ) pc L (.int v :: .ref (ad 0) :: rest) := by
  subst hp
  intro H locs ls h1 h2 h3 h4
  exact va_put C.x C.b C.ts in_F ty_F ok_F nm_F C.own hK h1 h2 h3 0 rfl rfl 2 (by decide) (C.ts _ hl) (fun _ h => h) rfl (ok_F 2 (by decide)) rfl rfl (Nat.le_of_ble_eq_true rfl) d (fun H1 locs1 g1 g2 g3 => k H1 locs1 ls g1 g2 g3 h4)
theorem get_WFF_0_standing (C : Cx p s m args c cc nL own) (hK : va_K D classes (tys cs) s) {idx : Nat} {v : Int32} (hv : μ.1 0 3 = v) (hl : Cond.fieldLink own idx "TentPegs$Field" "standing" "I" ∈ TT) (d : decode cc pc = .ok (.getfield idx, 3)) (hp : pc + 3 = pc1) (k : G p l e R s m args below meth c Q D A nL (WFF ad cs μ) pc1 L (.int v :: rest)) : G p l e R s m args below meth c Q D A nL (WFF ad cs μ) pc L (.ref (ad 0) :: rest) := by
  subst hp
  subst hv
  intro H locs ls h1 h2 h3 h4
  exact va_get C.x C.b C.ts in_F C.own hK h1 0 rfl rfl 3 (by decide) (C.ts _ hl) (fun _ h => h) rfl d (k H locs ls h1 h2 h3 h4)
theorem put_WFF_0_standing (C : Cx p s m args c cc nL own) (hK : va_K D classes (tys cs) s) {idx : Nat} {v : Int32} (hl : Cond.fieldLink own idx "TentPegs$Field" "standing" "I" ∈ TT) (d : decode cc pc = .ok (.putfield idx, 3)) (hp : pc + 3 = pc1) (k : G p l e R s m args below meth c Q D A nL (WFF ad cs (stI μ 0 3 v)) pc1 L rest) : G p l e R s m args below meth c Q D A nL (WFF ad cs μ) pc L (.int v :: .ref (ad 0) :: rest) := by
  subst hp
  intro H locs ls h1 h2 h3 h4
  exact va_put C.x C.b C.ts in_F ty_F ok_F nm_F C.own hK h1 h2 h3 0 rfl rfl 3 (by decide) (C.ts _ hl) (fun _ h => h) rfl (ok_F 3 (by decide)) rfl rfl (Nat.le_of_ble_eq_true rfl) d (fun H1 locs1 g1 g2 g3 => k H1 locs1 ls g1 g2 g3 h4)
theorem get_WFF_0_undoable (C : Cx p s m args c cc nL own) (hK : va_K D classes (tys cs) s) {idx : Nat} {v : Int32} (hv : μ.1 0 4 = v) (hl : Cond.fieldLink own idx "TentPegs$Field" "undoable" "I" ∈ TT) (d : decode cc pc = .ok (.getfield idx, 3)) (hp : pc + 3 = pc1) (k : G p l e R s m args below meth c Q D A nL (WFF ad cs μ) pc1 L (.int v :: rest)) : G p l e R s m args below meth c Q D A nL (WFF ad cs μ) pc L (.ref (ad 0) :: rest) := by
  subst hp
  subst hv
  intro H locs ls h1 h2 h3 h4
  exact va_get C.x C.b C.ts in_F C.own hK h1 0 rfl rfl 4 (by decide) (C.ts _ hl) (fun _ h => h) rfl d (k H locs ls h1 h2 h3 h4)
theorem put_WFF_0_undoable (C : Cx p s m args c cc nL own) (hK : va_K D classes (tys cs) s) {idx : Nat} {v : Int32} (hl : Cond.fieldLink own idx "TentPegs$Field" "undoable" "I" ∈ TT) (d : decode cc pc = .ok (.putfield idx, 3)) (hp : pc + 3 = pc1) (k : G p l e R s m args below meth c Q D A nL (WFF ad cs (stI μ 0 4 v)) pc1 L rest) : G p l e R s m args below meth c Q D A nL (WFF ad cs μ) pc L (.int v :: .ref (ad 0) :: rest) := by
  subst hp
  intro H locs ls h1 h2 h3 h4
  exact va_put C.x C.b C.ts in_F ty_F ok_F nm_F C.own hK h1 h2 h3 0 rfl rfl 4 (by decide) (C.ts _ hl) (fun _ h => h) rfl (ok_F 4 (by decide)) rfl rfl (Nat.le_of_ble_eq_true rfl) d (fun H1 locs1 g1 g2 g3 => k H1 locs1 ls g1 g2 g3 h4)
theorem get_WFF_0_kinds (C : Cx p s m args c cc nL own) (hK : va_K D classes (tys cs) s) {idx : Nat} (hl : Cond.fieldLink own idx "TentPegs$Field" "kinds" "[I" ∈ TT) (d : decode cc pc = .ok (.getfield idx, 3)) (hp : pc + 3 = pc1) (k : G p l e R s m args below meth c Q D A nL (WFF ad cs μ) pc1 L (.ref (ad 1) :: rest)) : G p l e R s m args below meth c Q D A nL (WFF ad cs μ) pc L (.ref (ad 0) :: rest) := by
  subst hp
  intro H locs ls h1 h2 h3 h4
  exact va_get C.x C.b C.ts in_F C.own hK h1 0 rfl rfl 5 (by decide) (C.ts _ hl) (fun _ h => h) rfl d (k H locs ls h1 h2 h3 h4)
theorem get_WFF_0_depths (C : Cx p s m args c cc nL own) (hK : va_K D classes (tys cs) s) {idx : Nat} (hl : Cond.fieldLink own idx "TentPegs$Field" "depths" "[I" ∈ TT) (d : decode cc pc = .ok (.getfield idx, 3)) (hp : pc + 3 = pc1) (k : G p l e R s m args below meth c Q D A nL (WFF ad cs μ) pc1 L (.ref (ad 2) :: rest)) : G p l e R s m args below meth c Q D A nL (WFF ad cs μ) pc L (.ref (ad 0) :: rest) := by
  subst hp
  intro H locs ls h1 h2 h3 h4
  exact va_get C.x C.b C.ts in_F C.own hK h1 0 rfl rfl 6 (by decide) (C.ts _ hl) (fun _ h => h) rfl d (k H locs ls h1 h2 h3 h4)
theorem get_WFF_0_grounds (C : Cx p s m args c cc nL own) (hK : va_K D classes (tys cs) s) {idx : Nat} (hl : Cond.fieldLink own idx "TentPegs$Field" "grounds" "[I" ∈ TT) (d : decode cc pc = .ok (.getfield idx, 3)) (hp : pc + 3 = pc1) (k : G p l e R s m args below meth c Q D A nL (WFF ad cs μ) pc1 L (.ref (ad 3) :: rest)) : G p l e R s m args below meth c Q D A nL (WFF ad cs μ) pc L (.ref (ad 0) :: rest) := by
  subst hp
  intro H locs ls h1 h2 h3 h4
  exact va_get C.x C.b C.ts in_F C.own hK h1 0 rfl rfl 7 (by decide) (C.ts _ hl) (fun _ h => h) rfl d (k H locs ls h1 h2 h3 h4)
theorem get_WFF_0_chances (C : Cx p s m args c cc nL own) (hK : va_K D classes (tys cs) s) {idx : Nat} (hl : Cond.fieldLink own idx "TentPegs$Field" "chances" "[I" ∈ TT) (d : decode cc pc = .ok (.getfield idx, 3)) (hp : pc + 3 = pc1) (k : G p l e R s m args below meth c Q D A nL (WFF ad cs μ) pc1 L (.ref (ad 4) :: rest)) : G p l e R s m args below meth c Q D A nL (WFF ad cs μ) pc L (.ref (ad 0) :: rest) := by
  subst hp
  intro H locs ls h1 h2 h3 h4
  exact va_get C.x C.b C.ts in_F C.own hK h1 0 rfl rfl 8 (by decide) (C.ts _ hl) (fun _ h => h) rfl d (k H locs ls h1 h2 h3 h4)
theorem get_WFF_0_stoodBefore (C : Cx p s m args c cc nL own) (hK : va_K D classes (tys cs) s) {idx : Nat} (hl : Cond.fieldLink own idx "TentPegs$Field" "stoodBefore" "[I" ∈ TT) (d : decode cc pc = .ok (.getfield idx, 3)) (hp : pc + 3 = pc1) (k : G p l e R s m args below meth c Q D A nL (WFF ad cs μ) pc1 L (.ref (ad 5) :: rest)) : G p l e R s m args below meth c Q D A nL (WFF ad cs μ) pc L (.ref (ad 0) :: rest) := by
  subst hp
  intro H locs ls h1 h2 h3 h4
  exact va_get C.x C.b C.ts in_F C.own hK h1 0 rfl rfl 9 (by decide) (C.ts _ hl) (fun _ h => h) rfl d (k H locs ls h1 h2 h3 h4)
theorem get_WFF_6_pegs (C : Cx p s m args c cc nL own) (hK : va_K D classes (tys cs) s) {idx : Nat} {v : Int32} (hv : μ.1 6 0 = v) (hl : Cond.fieldLink own idx "TentPegs$Field" "pegs" "I" ∈ TT) (d : decode cc pc = .ok (.getfield idx, 3)) (hp : pc + 3 = pc1) (k : G p l e R s m args below meth c Q D A nL (WFF ad cs μ) pc1 L (.int v :: rest)) : G p l e R s m args below meth c Q D A nL (WFF ad cs μ) pc L (.ref (ad 6) :: rest) := by
  subst hp
  subst hv
  intro H locs ls h1 h2 h3 h4
  exact va_get C.x C.b C.ts in_F C.own hK h1 6 rfl rfl 0 (by decide) (C.ts _ hl) (fun _ h => h) rfl d (k H locs ls h1 h2 h3 h4)
theorem put_WFF_6_pegs (C : Cx p s m args c cc nL own) (hK : va_K D classes (tys cs) s) {idx : Nat} {v : Int32} (hl : Cond.fieldLink own idx "TentPegs$Field" "pegs" "I" ∈ TT) (d : decode cc pc = .ok (.putfield idx, 3)) (hp : pc + 3 = pc1) (k : G p l e R s m args below meth c Q D A nL (WFF ad cs (stI μ 6 0 v)) pc1 L rest) : G p l e R s m args below meth c Q D A nL (WFF ad cs μ) pc L (.int v :: .ref (ad 6) :: rest) := by
  subst hp
  intro H locs ls h1 h2 h3 h4
  exact va_put C.x C.b C.ts in_F ty_F ok_F nm_F C.own hK h1 h2 h3 6 rfl rfl 0 (by decide) (C.ts _ hl) (fun _ h => h) rfl (ok_F 0 (by decide)) rfl rfl (Nat.le_of_ble_eq_true rfl) d (fun H1 locs1 g1 g2 g3 => k H1 locs1 ls g1 g2 g3 h4)
theorem get_WFF_6_wetness (C : Cx p s m args c cc nL own) (hK : va_K D classes (tys cs) s) {idx : Nat} {v : Int32} (hv : μ.1 6 1 = v) (hl : Cond.fieldLink own idx "TentPegs$Field" "wetness" "I" ∈ TT) (d : decode cc pc = .ok (.getfield idx, 3)) (hp : pc + 3 = pc1) (k : G p l e R s m args below meth c Q D A nL (WFF ad cs μ) pc1 L (.int v :: rest)) : G p l e R s m args below meth c Q D A nL (WFF ad cs μ) pc L (.ref (ad 6) :: rest) := by
  subst hp
  subst hv
  intro H locs ls h1 h2 h3 h4
  exact va_get C.x C.b C.ts in_F C.own hK h1 6 rfl rfl 1 (by decide) (C.ts _ hl) (fun _ h => h) rfl d (k H locs ls h1 h2 h3 h4)
theorem put_WFF_6_wetness (C : Cx p s m args c cc nL own) (hK : va_K D classes (tys cs) s) {idx : Nat} {v : Int32} (hl : Cond.fieldLink own idx "TentPegs$Field" "wetness" "I" ∈ TT) (d : decode cc pc = .ok (.putfield idx, 3)) (hp : pc + 3 = pc1) (k : G p l e R s m args below meth c Q D A nL (WFF ad cs (stI μ 6 1 v)) pc1 L rest) : G p l e R s m args below meth c Q D A nL (WFF ad cs μ) pc L (.int v :: .ref (ad 6) :: rest) := by
  subst hp
  intro H locs ls h1 h2 h3 h4
  exact va_put C.x C.b C.ts in_F ty_F ok_F nm_F C.own hK h1 h2 h3 6 rfl rfl 1 (by decide) (C.ts _ hl) (fun _ h => h) rfl (ok_F 1 (by decide)) rfl rfl (Nat.le_of_ble_eq_true rfl) d (fun H1 locs1 g1 g2 g3 => k H1 locs1 ls g1 g2 g3 h4)
theorem get_WFF_6_walls (C : Cx p s m args c cc nL own) (hK : va_K D classes (tys cs) s) {idx : Nat} {v : Int32} (hv : μ.1 6 2 = v) (hl : Cond.fieldLink own idx "TentPegs$Field" "walls" "I" ∈ TT) (d : decode cc pc = .ok (.getfield idx, 3)) (hp : pc + 3 = pc1) (k : G p l e R s m args below meth c Q D A nL (WFF ad cs μ) pc1 L (.int v :: rest)) : G p l e R s m args below meth c Q D A nL (WFF ad cs μ) pc L (.ref (ad 6) :: rest) := by
  subst hp
  subst hv
  intro H locs ls h1 h2 h3 h4
  exact va_get C.x C.b C.ts in_F C.own hK h1 6 rfl rfl 2 (by decide) (C.ts _ hl) (fun _ h => h) rfl d (k H locs ls h1 h2 h3 h4)
theorem put_WFF_6_walls (C : Cx p s m args c cc nL own) (hK : va_K D classes (tys cs) s) {idx : Nat} {v : Int32} (hl : Cond.fieldLink own idx "TentPegs$Field" "walls" "I" ∈ TT) (d : decode cc pc = .ok (.putfield idx, 3)) (hp : pc + 3 = pc1) (k : G p l e R s m args below meth c Q D A nL (WFF ad cs (stI μ 6 2 v)) pc1 L rest) : G p l e R s m args below meth c Q D A nL (WFF ad cs μ) pc L (.int v :: .ref (ad 6) :: rest) := by
  subst hp
  intro H locs ls h1 h2 h3 h4
  exact va_put C.x C.b C.ts in_F ty_F ok_F nm_F C.own hK h1 h2 h3 6 rfl rfl 2 (by decide) (C.ts _ hl) (fun _ h => h) rfl (ok_F 2 (by decide)) rfl rfl (Nat.le_of_ble_eq_true rfl) d (fun H1 locs1 g1 g2 g3 => k H1 locs1 ls g1 g2 g3 h4)
theorem get_WFF_6_standing (C : Cx p s m args c cc nL own) (hK : va_K D classes (tys cs) s) {idx : Nat} {v : Int32} (hv : μ.1 6 3 = v) (hl : Cond.fieldLink own idx "TentPegs$Field" "standing" "I" ∈ TT) (d : decode cc pc = .ok (.getfield idx, 3)) (hp : pc + 3 = pc1) (k : G p l e R s m args below meth c Q D A nL (WFF ad cs μ) pc1 L (.int v :: rest)) : G p l e R s m args below meth c Q D A nL (WFF ad cs μ) pc L (.ref (ad 6) :: rest) := by
  subst hp
  subst hv
  intro H locs ls h1 h2 h3 h4
  exact va_get C.x C.b C.ts in_F C.own hK h1 6 rfl rfl 3 (by decide) (C.ts _ hl) (fun _ h => h) rfl d (k H locs ls h1 h2 h3 h4)
theorem put_WFF_6_standing (C : Cx p s m args c cc nL own) (hK : va_K D classes (tys cs) s) {idx : Nat} {v : Int32} (hl : Cond.fieldLink own idx "TentPegs$Field" "standing" "I" ∈ TT) (d : decode cc pc = .ok (.putfield idx, 3)) (hp : pc + 3 = pc1) (k : G p l e R s m args below meth c Q D A nL (WFF ad cs (stI μ 6 3 v)) pc1 L rest) : G p l e R s m args below meth c Q D A nL (WFF ad cs μ) pc L (.int v :: .ref (ad 6) :: rest) := by
  subst hp
  intro H locs ls h1 h2 h3 h4
  exact va_put C.x C.b C.ts in_F ty_F ok_F nm_F C.own hK h1 h2 h3 6 rfl rfl 3 (by decide) (C.ts _ hl) (fun _ h => h) rfl (ok_F 3 (by decide)) rfl rfl (Nat.le_of_ble_eq_true rfl) d (fun H1 locs1 g1 g2 g3 => k H1 locs1 ls g1 g2 g3 h4)
theorem get_WFF_6_undoable (C : Cx p s m args c cc nL own) (hK : va_K D classes (tys cs) s) {idx : Nat} {v : Int32} (hv : μ.1 6 4 = v) (hl : Cond.fieldLink own idx "TentPegs$Field" "undoable" "I" ∈ TT) (d : decode cc pc = .ok (.getfield idx, 3)) (hp : pc + 3 = pc1) (k : G p l e R s m args below meth c Q D A nL (WFF ad cs μ) pc1 L (.int v :: rest)) : G p l e R s m args below meth c Q D A nL (WFF ad cs μ) pc L (.ref (ad 6) :: rest) := by
  subst hp
  subst hv
  intro H locs ls h1 h2 h3 h4
  exact va_get C.x C.b C.ts in_F C.own hK h1 6 rfl rfl 4 (by decide) (C.ts _ hl) (fun _ h => h) rfl d (k H locs ls h1 h2 h3 h4)
theorem put_WFF_6_undoable (C : Cx p s m args c cc nL own) (hK : va_K D classes (tys cs) s) {idx : Nat} {v : Int32} (hl : Cond.fieldLink own idx "TentPegs$Field" "undoable" "I" ∈ TT) (d : decode cc pc = .ok (.putfield idx, 3)) (hp : pc + 3 = pc1) (k : G p l e R s m args below meth c Q D A nL (WFF ad cs (stI μ 6 4 v)) pc1 L rest) : G p l e R s m args below meth c Q D A nL (WFF ad cs μ) pc L (.int v :: .ref (ad 6) :: rest) := by
  subst hp
  intro H locs ls h1 h2 h3 h4
  exact va_put C.x C.b C.ts in_F ty_F ok_F nm_F C.own hK h1 h2 h3 6 rfl rfl 4 (by decide) (C.ts _ hl) (fun _ h => h) rfl (ok_F 4 (by decide)) rfl rfl (Nat.le_of_ble_eq_true rfl) d (fun H1 locs1 g1 g2 g3 => k H1 locs1 ls g1 g2 g3 h4)
theorem get_WFF_6_kinds (C : Cx p s m args c cc nL own) (hK : va_K D classes (tys cs) s) {idx : Nat} (hl : Cond.fieldLink own idx "TentPegs$Field" "kinds" "[I" ∈ TT) (d : decode cc pc = .ok (.getfield idx, 3)) (hp : pc + 3 = pc1) (k : G p l e R s m args below meth c Q D A nL (WFF ad cs μ) pc1 L (.ref (ad 7) :: rest)) : G p l e R s m args below meth c Q D A nL (WFF ad cs μ) pc L (.ref (ad 6) :: rest) := by
  subst hp
  intro H locs ls h1 h2 h3 h4
  exact va_get C.x C.b C.ts in_F C.own hK h1 6 rfl rfl 5 (by decide) (C.ts _ hl) (fun _ h => h) rfl d (k H locs ls h1 h2 h3 h4)
theorem get_WFF_6_depths (C : Cx p s m args c cc nL own) (hK : va_K D classes (tys cs) s) {idx : Nat} (hl : Cond.fieldLink own idx "TentPegs$Field" "depths" "[I" ∈ TT) (d : decode cc pc = .ok (.getfield idx, 3)) (hp : pc + 3 = pc1) (k : G p l e R s m args below meth c Q D A nL (WFF ad cs μ) pc1 L (.ref (ad 8) :: rest)) : G p l e R s m args below meth c Q D A nL (WFF ad cs μ) pc L (.ref (ad 6) :: rest) := by
  subst hp
  intro H locs ls h1 h2 h3 h4
  exact va_get C.x C.b C.ts in_F C.own hK h1 6 rfl rfl 6 (by decide) (C.ts _ hl) (fun _ h => h) rfl d (k H locs ls h1 h2 h3 h4)
theorem get_WFF_6_grounds (C : Cx p s m args c cc nL own) (hK : va_K D classes (tys cs) s) {idx : Nat} (hl : Cond.fieldLink own idx "TentPegs$Field" "grounds" "[I" ∈ TT) (d : decode cc pc = .ok (.getfield idx, 3)) (hp : pc + 3 = pc1) (k : G p l e R s m args below meth c Q D A nL (WFF ad cs μ) pc1 L (.ref (ad 9) :: rest)) : G p l e R s m args below meth c Q D A nL (WFF ad cs μ) pc L (.ref (ad 6) :: rest) := by
  subst hp
  intro H locs ls h1 h2 h3 h4
  exact va_get C.x C.b C.ts in_F C.own hK h1 6 rfl rfl 7 (by decide) (C.ts _ hl) (fun _ h => h) rfl d (k H locs ls h1 h2 h3 h4)
theorem get_WFF_6_chances (C : Cx p s m args c cc nL own) (hK : va_K D classes (tys cs) s) {idx : Nat} (hl : Cond.fieldLink own idx "TentPegs$Field" "chances" "[I" ∈ TT) (d : decode cc pc = .ok (.getfield idx, 3)) (hp : pc + 3 = pc1) (k : G p l e R s m args below meth c Q D A nL (WFF ad cs μ) pc1 L (.ref (ad 10) :: rest)) : G p l e R s m args below meth c Q D A nL (WFF ad cs μ) pc L (.ref (ad 6) :: rest) := by
  subst hp
  intro H locs ls h1 h2 h3 h4
  exact va_get C.x C.b C.ts in_F C.own hK h1 6 rfl rfl 8 (by decide) (C.ts _ hl) (fun _ h => h) rfl d (k H locs ls h1 h2 h3 h4)
theorem get_WFF_6_stoodBefore (C : Cx p s m args c cc nL own) (hK : va_K D classes (tys cs) s) {idx : Nat} (hl : Cond.fieldLink own idx "TentPegs$Field" "stoodBefore" "[I" ∈ TT) (d : decode cc pc = .ok (.getfield idx, 3)) (hp : pc + 3 = pc1) (k : G p l e R s m args below meth c Q D A nL (WFF ad cs μ) pc1 L (.ref (ad 11) :: rest)) : G p l e R s m args below meth c Q D A nL (WFF ad cs μ) pc L (.ref (ad 6) :: rest) := by
  subst hp
  intro H locs ls h1 h2 h3 h4
  exact va_get C.x C.b C.ts in_F C.own hK h1 6 rfl rfl 9 (by decide) (C.ts _ hl) (fun _ h => h) rfl d (k H locs ls h1 h2 h3 h4)
theorem get_WC_0_field (C : Cx p s m args c cc nL own) (hK : va_K D classes (tys cs) s) {idx : Nat} (hl : Cond.fieldLink own idx "TentPegs" "field" "LTentPegs$Field;" ∈ TT) (d : decode cc pc = .ok (.getfield idx, 3)) (hp : pc + 3 = pc1) (k : G p l e R s m args below meth c Q D A nL (WC ad cs μ) pc1 L (.ref (ad 1) :: rest)) : G p l e R s m args below meth c Q D A nL (WC ad cs μ) pc L (.ref (ad 0) :: rest) := by
  subst hp
  intro H locs ls h1 h2 h3 h4
  exact va_get C.x C.b C.ts in_T C.own hK h1 0 rfl rfl 0 (by decide) (C.ts _ hl) (fun _ h => h) rfl d (k H locs ls h1 h2 h3 h4)
theorem get_WC_0_gale (C : Cx p s m args c cc nL own) (hK : va_K D classes (tys cs) s) {idx : Nat} (hl : Cond.fieldLink own idx "TentPegs" "gale" "LTentPegs$Gale;" ∈ TT) (d : decode cc pc = .ok (.getfield idx, 3)) (hp : pc + 3 = pc1) (k : G p l e R s m args below meth c Q D A nL (WC ad cs μ) pc1 L (.ref (ad 7) :: rest)) : G p l e R s m args below meth c Q D A nL (WC ad cs μ) pc L (.ref (ad 0) :: rest) := by
  subst hp
  intro H locs ls h1 h2 h3 h4
  exact va_get C.x C.b C.ts in_T C.own hK h1 0 rfl rfl 1 (by decide) (C.ts _ hl) (fun _ h => h) rfl d (k H locs ls h1 h2 h3 h4)
theorem get_WC_0_plans (C : Cx p s m args c cc nL own) (hK : va_K D classes (tys cs) s) {idx : Nat} (hl : Cond.fieldLink own idx "TentPegs" "plans" "LTentPegs$Plans;" ∈ TT) (d : decode cc pc = .ok (.getfield idx, 3)) (hp : pc + 3 = pc1) (k : G p l e R s m args below meth c Q D A nL (WC ad cs μ) pc1 L (.ref (ad 10) :: rest)) : G p l e R s m args below meth c Q D A nL (WC ad cs μ) pc L (.ref (ad 0) :: rest) := by
  subst hp
  intro H locs ls h1 h2 h3 h4
  exact va_get C.x C.b C.ts in_T C.own hK h1 0 rfl rfl 2 (by decide) (C.ts _ hl) (fun _ h => h) rfl d (k H locs ls h1 h2 h3 h4)
theorem get_WC_0_text (C : Cx p s m args c cc nL own) (hK : va_K D classes (tys cs) s) {idx : Nat} (hl : Cond.fieldLink own idx "TentPegs" "text" "[B" ∈ TT) (d : decode cc pc = .ok (.getfield idx, 3)) (hp : pc + 3 = pc1) (k : G p l e R s m args below meth c Q D A nL (WC ad cs μ) pc1 L (.ref (ad 13) :: rest)) : G p l e R s m args below meth c Q D A nL (WC ad cs μ) pc L (.ref (ad 0) :: rest) := by
  subst hp
  intro H locs ls h1 h2 h3 h4
  exact va_get C.x C.b C.ts in_T C.own hK h1 0 rfl rfl 3 (by decide) (C.ts _ hl) (fun _ h => h) rfl d (k H locs ls h1 h2 h3 h4)
theorem get_WC_0_reader (C : Cx p s m args c cc nL own) (hK : va_K D classes (tys cs) s) {idx : Nat} (hl : Cond.fieldLink own idx "TentPegs" "reader" "LTentPegs$Reader;" ∈ TT) (d : decode cc pc = .ok (.getfield idx, 3)) (hp : pc + 3 = pc1) (k : G p l e R s m args below meth c Q D A nL (WC ad cs μ) pc1 L (.ref (ad 14) :: rest)) : G p l e R s m args below meth c Q D A nL (WC ad cs μ) pc L (.ref (ad 0) :: rest) := by
  subst hp
  intro H locs ls h1 h2 h3 h4
  exact va_get C.x C.b C.ts in_T C.own hK h1 0 rfl rfl 4 (by decide) (C.ts _ hl) (fun _ h => h) rfl d (k H locs ls h1 h2 h3 h4)
theorem get_WC_0_images (C : Cx p s m args c cc nL own) (hK : va_K D classes (tys cs) s) {idx : Nat} (hl : Cond.fieldLink own idx "TentPegs" "images" "[LTentPegs$Field;" ∈ TT) (d : decode cc pc = .ok (.getfield idx, 3)) (hp : pc + 3 = pc1) (k : G p l e R s m args below meth c Q D A nL (WC ad cs μ) pc1 L (.ref (ad 22) :: rest)) : G p l e R s m args below meth c Q D A nL (WC ad cs μ) pc L (.ref (ad 0) :: rest) := by
  subst hp
  intro H locs ls h1 h2 h3 h4
  exact va_get C.x C.b C.ts in_T C.own hK h1 0 rfl rfl 5 (by decide) (C.ts _ hl) (fun _ h => h) rfl d (k H locs ls h1 h2 h3 h4)
theorem get_WC_0_kept (C : Cx p s m args c cc nL own) (hK : va_K D classes (tys cs) s) {idx : Nat} (hl : Cond.fieldLink own idx "TentPegs" "kept" "[Z" ∈ TT) (d : decode cc pc = .ok (.getfield idx, 3)) (hp : pc + 3 = pc1) (k : G p l e R s m args below meth c Q D A nL (WC ad cs μ) pc1 L (.ref (ad 35) :: rest)) : G p l e R s m args below meth c Q D A nL (WC ad cs μ) pc L (.ref (ad 0) :: rest) := by
  subst hp
  intro H locs ls h1 h2 h3 h4
  exact va_get C.x C.b C.ts in_T C.own hK h1 0 rfl rfl 6 (by decide) (C.ts _ hl) (fun _ h => h) rfl d (k H locs ls h1 h2 h3 h4)
theorem get_WC_0_typed (C : Cx p s m args c cc nL own) (hK : va_K D classes (tys cs) s) {idx : Nat} {v : Int32} (hv : μ.1 0 7 = v) (hl : Cond.fieldLink own idx "TentPegs" "typed" "I" ∈ TT) (d : decode cc pc = .ok (.getfield idx, 3)) (hp : pc + 3 = pc1) (k : G p l e R s m args below meth c Q D A nL (WC ad cs μ) pc1 L (.int v :: rest)) : G p l e R s m args below meth c Q D A nL (WC ad cs μ) pc L (.ref (ad 0) :: rest) := by
  subst hp
  subst hv
  intro H locs ls h1 h2 h3 h4
  exact va_get C.x C.b C.ts in_T C.own hK h1 0 rfl rfl 7 (by decide) (C.ts _ hl) (fun _ h => h) rfl d (k H locs ls h1 h2 h3 h4)
theorem put_WC_0_typed (C : Cx p s m args c cc nL own) (hK : va_K D classes (tys cs) s) {idx : Nat} {v : Int32} (hl : Cond.fieldLink own idx "TentPegs" "typed" "I" ∈ TT) (d : decode cc pc = .ok (.putfield idx, 3)) (hp : pc + 3 = pc1) (k : G p l e R s m args below meth c Q D A nL (WC ad cs (stI μ 0 7 v)) pc1 L rest) : G p l e R s m args below meth c Q D A nL (WC ad cs μ) pc L (.int v :: .ref (ad 0) :: rest) := by
  subst hp
  intro H locs ls h1 h2 h3 h4
  exact va_put C.x C.b C.ts in_T ty_T ok_T nm_T C.own hK h1 h2 h3 0 rfl rfl 7 (by decide) (C.ts _ hl) (fun _ h => h) rfl (ok_T 7 (by decide)) rfl rfl (Nat.le_of_ble_eq_true rfl) d (fun H1 locs1 g1 g2 g3 => k H1 locs1 ls g1 g2 g3 h4)
theorem get_WC_0_above (C : Cx p s m args c cc nL own) (hK : va_K D classes (tys cs) s) {idx : Nat} {v : Int32} (hv : μ.1 0 8 = v) (hl : Cond.fieldLink own idx "TentPegs" "above" "I" ∈ TT) (d : decode cc pc = .ok (.getfield idx, 3)) (hp : pc + 3 = pc1) (k : G p l e R s m args below meth c Q D A nL (WC ad cs μ) pc1 L (.int v :: rest)) : G p l e R s m args below meth c Q D A nL (WC ad cs μ) pc L (.ref (ad 0) :: rest) := by
  subst hp
  subst hv
  intro H locs ls h1 h2 h3 h4
  exact va_get C.x C.b C.ts in_T C.own hK h1 0 rfl rfl 8 (by decide) (C.ts _ hl) (fun _ h => h) rfl d (k H locs ls h1 h2 h3 h4)
theorem put_WC_0_above (C : Cx p s m args c cc nL own) (hK : va_K D classes (tys cs) s) {idx : Nat} {v : Int32} (hl : Cond.fieldLink own idx "TentPegs" "above" "I" ∈ TT) (d : decode cc pc = .ok (.putfield idx, 3)) (hp : pc + 3 = pc1) (k : G p l e R s m args below meth c Q D A nL (WC ad cs (stI μ 0 8 v)) pc1 L rest) : G p l e R s m args below meth c Q D A nL (WC ad cs μ) pc L (.int v :: .ref (ad 0) :: rest) := by
  subst hp
  intro H locs ls h1 h2 h3 h4
  exact va_put C.x C.b C.ts in_T ty_T ok_T nm_T C.own hK h1 h2 h3 0 rfl rfl 8 (by decide) (C.ts _ hl) (fun _ h => h) rfl (ok_T 8 (by decide)) rfl rfl (Nat.le_of_ble_eq_true rfl) d (fun H1 locs1 g1 g2 g3 => k H1 locs1 ls g1 g2 g3 h4)
theorem get_WC_0_below (C : Cx p s m args c cc nL own) (hK : va_K D classes (tys cs) s) {idx : Nat} {v : Int32} (hv : μ.1 0 9 = v) (hl : Cond.fieldLink own idx "TentPegs" "below" "I" ∈ TT) (d : decode cc pc = .ok (.getfield idx, 3)) (hp : pc + 3 = pc1) (k : G p l e R s m args below meth c Q D A nL (WC ad cs μ) pc1 L (.int v :: rest)) : G p l e R s m args below meth c Q D A nL (WC ad cs μ) pc L (.ref (ad 0) :: rest) := by
  subst hp
  subst hv
  intro H locs ls h1 h2 h3 h4
  exact va_get C.x C.b C.ts in_T C.own hK h1 0 rfl rfl 9 (by decide) (C.ts _ hl) (fun _ h => h) rfl d (k H locs ls h1 h2 h3 h4)
theorem put_WC_0_below (C : Cx p s m args c cc nL own) (hK : va_K D classes (tys cs) s) {idx : Nat} {v : Int32} (hl : Cond.fieldLink own idx "TentPegs" "below" "I" ∈ TT) (d : decode cc pc = .ok (.putfield idx, 3)) (hp : pc + 3 = pc1) (k : G p l e R s m args below meth c Q D A nL (WC ad cs (stI μ 0 9 v)) pc1 L rest) : G p l e R s m args below meth c Q D A nL (WC ad cs μ) pc L (.int v :: .ref (ad 0) :: rest) := by
  subst hp
  intro H locs ls h1 h2 h3 h4
  exact va_put C.x C.b C.ts in_T ty_T ok_T nm_T C.own hK h1 h2 h3 0 rfl rfl 9 (by decide) (C.ts _ hl) (fun _ h => h) rfl (ok_T 9 (by decide)) rfl rfl (Nat.le_of_ble_eq_true rfl) d (fun H1 locs1 g1 g2 g3 => k H1 locs1 ls g1 g2 g3 h4)
theorem get_WC_0_bads (C : Cx p s m args c cc nL own) (hK : va_K D classes (tys cs) s) {idx : Nat} {v : Int32} (hv : μ.1 0 10 = v) (hl : Cond.fieldLink own idx "TentPegs" "bads" "I" ∈ TT) (d : decode cc pc = .ok (.getfield idx, 3)) (hp : pc + 3 = pc1) (k : G p l e R s m args below meth c Q D A nL (WC ad cs μ) pc1 L (.int v :: rest)) : G p l e R s m args below meth c Q D A nL (WC ad cs μ) pc L (.ref (ad 0) :: rest) := by
  subst hp
  subst hv
  intro H locs ls h1 h2 h3 h4
  exact va_get C.x C.b C.ts in_T C.own hK h1 0 rfl rfl 10 (by decide) (C.ts _ hl) (fun _ h => h) rfl d (k H locs ls h1 h2 h3 h4)
theorem put_WC_0_bads (C : Cx p s m args c cc nL own) (hK : va_K D classes (tys cs) s) {idx : Nat} {v : Int32} (hl : Cond.fieldLink own idx "TentPegs" "bads" "I" ∈ TT) (d : decode cc pc = .ok (.putfield idx, 3)) (hp : pc + 3 = pc1) (k : G p l e R s m args below meth c Q D A nL (WC ad cs (stI μ 0 10 v)) pc1 L rest) : G p l e R s m args below meth c Q D A nL (WC ad cs μ) pc L (.int v :: .ref (ad 0) :: rest) := by
  subst hp
  intro H locs ls h1 h2 h3 h4
  exact va_put C.x C.b C.ts in_T ty_T ok_T nm_T C.own hK h1 h2 h3 0 rfl rfl 10 (by decide) (C.ts _ hl) (fun _ h => h) rfl (ok_T 10 (by decide)) rfl rfl (Nat.le_of_ble_eq_true rfl) d (fun H1 locs1 g1 g2 g3 => k H1 locs1 ls g1 g2 g3 h4)
theorem get_WC_0_noes (C : Cx p s m args c cc nL own) (hK : va_K D classes (tys cs) s) {idx : Nat} {v : Int32} (hv : μ.1 0 11 = v) (hl : Cond.fieldLink own idx "TentPegs" "noes" "I" ∈ TT) (d : decode cc pc = .ok (.getfield idx, 3)) (hp : pc + 3 = pc1) (k : G p l e R s m args below meth c Q D A nL (WC ad cs μ) pc1 L (.int v :: rest)) : G p l e R s m args below meth c Q D A nL (WC ad cs μ) pc L (.ref (ad 0) :: rest) := by
  subst hp
  subst hv
  intro H locs ls h1 h2 h3 h4
  exact va_get C.x C.b C.ts in_T C.own hK h1 0 rfl rfl 11 (by decide) (C.ts _ hl) (fun _ h => h) rfl d (k H locs ls h1 h2 h3 h4)
theorem put_WC_0_noes (C : Cx p s m args c cc nL own) (hK : va_K D classes (tys cs) s) {idx : Nat} {v : Int32} (hl : Cond.fieldLink own idx "TentPegs" "noes" "I" ∈ TT) (d : decode cc pc = .ok (.putfield idx, 3)) (hp : pc + 3 = pc1) (k : G p l e R s m args below meth c Q D A nL (WC ad cs (stI μ 0 11 v)) pc1 L rest) : G p l e R s m args below meth c Q D A nL (WC ad cs μ) pc L (.int v :: .ref (ad 0) :: rest) := by
  subst hp
  intro H locs ls h1 h2 h3 h4
  exact va_put C.x C.b C.ts in_T ty_T ok_T nm_T C.own hK h1 h2 h3 0 rfl rfl 11 (by decide) (C.ts _ hl) (fun _ h => h) rfl (ok_T 11 (by decide)) rfl rfl (Nat.le_of_ble_eq_true rfl) d (fun H1 locs1 g1 g2 g3 => k H1 locs1 ls g1 g2 g3 h4)
theorem get_WC_0_fulls (C : Cx p s m args c cc nL own) (hK : va_K D classes (tys cs) s) {idx : Nat} {v : Int32} (hv : μ.1 0 12 = v) (hl : Cond.fieldLink own idx "TentPegs" "fulls" "I" ∈ TT) (d : decode cc pc = .ok (.getfield idx, 3)) (hp : pc + 3 = pc1) (k : G p l e R s m args below meth c Q D A nL (WC ad cs μ) pc1 L (.int v :: rest)) : G p l e R s m args below meth c Q D A nL (WC ad cs μ) pc L (.ref (ad 0) :: rest) := by
  subst hp
  subst hv
  intro H locs ls h1 h2 h3 h4
  exact va_get C.x C.b C.ts in_T C.own hK h1 0 rfl rfl 12 (by decide) (C.ts _ hl) (fun _ h => h) rfl d (k H locs ls h1 h2 h3 h4)
theorem put_WC_0_fulls (C : Cx p s m args c cc nL own) (hK : va_K D classes (tys cs) s) {idx : Nat} {v : Int32} (hl : Cond.fieldLink own idx "TentPegs" "fulls" "I" ∈ TT) (d : decode cc pc = .ok (.putfield idx, 3)) (hp : pc + 3 = pc1) (k : G p l e R s m args below meth c Q D A nL (WC ad cs (stI μ 0 12 v)) pc1 L rest) : G p l e R s m args below meth c Q D A nL (WC ad cs μ) pc L (.int v :: .ref (ad 0) :: rest) := by
  subst hp
  intro H locs ls h1 h2 h3 h4
  exact va_put C.x C.b C.ts in_T ty_T ok_T nm_T C.own hK h1 h2 h3 0 rfl rfl 12 (by decide) (C.ts _ hl) (fun _ h => h) rfl (ok_T 12 (by decide)) rfl rfl (Nat.le_of_ble_eq_true rfl) d (fun H1 locs1 g1 g2 g3 => k H1 locs1 ls g1 g2 g3 h4)
theorem get_WC_1_pegs (C : Cx p s m args c cc nL own) (hK : va_K D classes (tys cs) s) {idx : Nat} {v : Int32} (hv : μ.1 1 0 = v) (hl : Cond.fieldLink own idx "TentPegs$Field" "pegs" "I" ∈ TT) (d : decode cc pc = .ok (.getfield idx, 3)) (hp : pc + 3 = pc1) (k : G p l e R s m args below meth c Q D A nL (WC ad cs μ) pc1 L (.int v :: rest)) : G p l e R s m args below meth c Q D A nL (WC ad cs μ) pc L (.ref (ad 1) :: rest) := by
  subst hp
  subst hv
  intro H locs ls h1 h2 h3 h4
  exact va_get C.x C.b C.ts in_F C.own hK h1 1 rfl rfl 0 (by decide) (C.ts _ hl) (fun _ h => h) rfl d (k H locs ls h1 h2 h3 h4)
theorem put_WC_1_pegs (C : Cx p s m args c cc nL own) (hK : va_K D classes (tys cs) s) {idx : Nat} {v : Int32} (hl : Cond.fieldLink own idx "TentPegs$Field" "pegs" "I" ∈ TT) (d : decode cc pc = .ok (.putfield idx, 3)) (hp : pc + 3 = pc1) (k : G p l e R s m args below meth c Q D A nL (WC ad cs (stI μ 1 0 v)) pc1 L rest) : G p l e R s m args below meth c Q D A nL (WC ad cs μ) pc L (.int v :: .ref (ad 1) :: rest) := by
  subst hp
  intro H locs ls h1 h2 h3 h4
  exact va_put C.x C.b C.ts in_F ty_F ok_F nm_F C.own hK h1 h2 h3 1 rfl rfl 0 (by decide) (C.ts _ hl) (fun _ h => h) rfl (ok_F 0 (by decide)) rfl rfl (Nat.le_of_ble_eq_true rfl) d (fun H1 locs1 g1 g2 g3 => k H1 locs1 ls g1 g2 g3 h4)
theorem get_WC_1_wetness (C : Cx p s m args c cc nL own) (hK : va_K D classes (tys cs) s) {idx : Nat} {v : Int32} (hv : μ.1 1 1 = v) (hl : Cond.fieldLink own idx "TentPegs$Field" "wetness" "I" ∈ TT) (d : decode cc pc = .ok (.getfield idx, 3)) (hp : pc + 3 = pc1) (k : G p l e R s m args below meth c Q D A nL (WC ad cs μ) pc1 L (.int v :: rest)) : G p l e R s m args below meth c Q D A nL (WC ad cs μ) pc L (.ref (ad 1) :: rest) := by
  subst hp
  subst hv
  intro H locs ls h1 h2 h3 h4
  exact va_get C.x C.b C.ts in_F C.own hK h1 1 rfl rfl 1 (by decide) (C.ts _ hl) (fun _ h => h) rfl d (k H locs ls h1 h2 h3 h4)
theorem put_WC_1_wetness (C : Cx p s m args c cc nL own) (hK : va_K D classes (tys cs) s) {idx : Nat} {v : Int32} (hl : Cond.fieldLink own idx "TentPegs$Field" "wetness" "I" ∈ TT) (d : decode cc pc = .ok (.putfield idx, 3)) (hp : pc + 3 = pc1) (k : G p l e R s m args below meth c Q D A nL (WC ad cs (stI μ 1 1 v)) pc1 L rest) : G p l e R s m args below meth c Q D A nL (WC ad cs μ) pc L (.int v :: .ref (ad 1) :: rest) := by
  subst hp
  intro H locs ls h1 h2 h3 h4
  exact va_put C.x C.b C.ts in_F ty_F ok_F nm_F C.own hK h1 h2 h3 1 rfl rfl 1 (by decide) (C.ts _ hl) (fun _ h => h) rfl (ok_F 1 (by decide)) rfl rfl (Nat.le_of_ble_eq_true rfl) d (fun H1 locs1 g1 g2 g3 => k H1 locs1 ls g1 g2 g3 h4)
theorem get_WC_1_walls (C : Cx p s m args c cc nL own) (hK : va_K D classes (tys cs) s) {idx : Nat} {v : Int32} (hv : μ.1 1 2 = v) (hl : Cond.fieldLink own idx "TentPegs$Field" "walls" "I" ∈ TT) (d : decode cc pc = .ok (.getfield idx, 3)) (hp : pc + 3 = pc1) (k : G p l e R s m args below meth c Q D A nL (WC ad cs μ) pc1 L (.int v :: rest)) : G p l e R s m args below meth c Q D A nL (WC ad cs μ) pc L (.ref (ad 1) :: rest) := by
  subst hp
  subst hv
  intro H locs ls h1 h2 h3 h4
  exact va_get C.x C.b C.ts in_F C.own hK h1 1 rfl rfl 2 (by decide) (C.ts _ hl) (fun _ h => h) rfl d (k H locs ls h1 h2 h3 h4)
theorem put_WC_1_walls (C : Cx p s m args c cc nL own) (hK : va_K D classes (tys cs) s) {idx : Nat} {v : Int32} (hl : Cond.fieldLink own idx "TentPegs$Field" "walls" "I" ∈ TT) (d : decode cc pc = .ok (.putfield idx, 3)) (hp : pc + 3 = pc1) (k : G p l e R s m args below meth c Q D A nL (WC ad cs (stI μ 1 2 v)) pc1 L rest) : G p l e R s m args below meth c Q D A nL (WC ad cs μ) pc L (.int v :: .ref (ad 1) :: rest) := by
  subst hp
  intro H locs ls h1 h2 h3 h4
  exact va_put C.x C.b C.ts in_F ty_F ok_F nm_F C.own hK h1 h2 h3 1 rfl rfl 2 (by decide) (C.ts _ hl) (fun _ h => h) rfl (ok_F 2 (by decide)) rfl rfl (Nat.le_of_ble_eq_true rfl) d (fun H1 locs1 g1 g2 g3 => k H1 locs1 ls g1 g2 g3 h4)
theorem get_WC_1_standing (C : Cx p s m args c cc nL own) (hK : va_K D classes (tys cs) s) {idx : Nat} {v : Int32} (hv : μ.1 1 3 = v) (hl : Cond.fieldLink own idx "TentPegs$Field" "standing" "I" ∈ TT) (d : decode cc pc = .ok (.getfield idx, 3)) (hp : pc + 3 = pc1) (k : G p l e R s m args below meth c Q D A nL (WC ad cs μ) pc1 L (.int v :: rest)) : G p l e R s m args below meth c Q D A nL (WC ad cs μ) pc L (.ref (ad 1) :: rest) := by
  subst hp
  subst hv
  intro H locs ls h1 h2 h3 h4
  exact va_get C.x C.b C.ts in_F C.own hK h1 1 rfl rfl 3 (by decide) (C.ts _ hl) (fun _ h => h) rfl d (k H locs ls h1 h2 h3 h4)
theorem put_WC_1_standing (C : Cx p s m args c cc nL own) (hK : va_K D classes (tys cs) s) {idx : Nat} {v : Int32} (hl : Cond.fieldLink own idx "TentPegs$Field" "standing" "I" ∈ TT) (d : decode cc pc = .ok (.putfield idx, 3)) (hp : pc + 3 = pc1) (k : G p l e R s m args below meth c Q D A nL (WC ad cs (stI μ 1 3 v)) pc1 L rest) : G p l e R s m args below meth c Q D A nL (WC ad cs μ) pc L (.int v :: .ref (ad 1) :: rest) := by
  subst hp
  intro H locs ls h1 h2 h3 h4
  exact va_put C.x C.b C.ts in_F ty_F ok_F nm_F C.own hK h1 h2 h3 1 rfl rfl 3 (by decide) (C.ts _ hl) (fun _ h => h) rfl (ok_F 3 (by decide)) rfl rfl (Nat.le_of_ble_eq_true rfl) d (fun H1 locs1 g1 g2 g3 => k H1 locs1 ls g1 g2 g3 h4)
theorem get_WC_1_undoable (C : Cx p s m args c cc nL own) (hK : va_K D classes (tys cs) s) {idx : Nat} {v : Int32} (hv : μ.1 1 4 = v) (hl : Cond.fieldLink own idx "TentPegs$Field" "undoable" "I" ∈ TT) (d : decode cc pc = .ok (.getfield idx, 3)) (hp : pc + 3 = pc1) (k : G p l e R s m args below meth c Q D A nL (WC ad cs μ) pc1 L (.int v :: rest)) : G p l e R s m args below meth c Q D A nL (WC ad cs μ) pc L (.ref (ad 1) :: rest) := by
  subst hp
  subst hv
  intro H locs ls h1 h2 h3 h4
  exact va_get C.x C.b C.ts in_F C.own hK h1 1 rfl rfl 4 (by decide) (C.ts _ hl) (fun _ h => h) rfl d (k H locs ls h1 h2 h3 h4)
theorem put_WC_1_undoable (C : Cx p s m args c cc nL own) (hK : va_K D classes (tys cs) s) {idx : Nat} {v : Int32} (hl : Cond.fieldLink own idx "TentPegs$Field" "undoable" "I" ∈ TT) (d : decode cc pc = .ok (.putfield idx, 3)) (hp : pc + 3 = pc1) (k : G p l e R s m args below meth c Q D A nL (WC ad cs (stI μ 1 4 v)) pc1 L rest) : G p l e R s m args below meth c Q D A nL (WC ad cs μ) pc L (.int v :: .ref (ad 1) :: rest) := by
  subst hp
  intro H locs ls h1 h2 h3 h4
  exact va_put C.x C.b C.ts in_F ty_F ok_F nm_F C.own hK h1 h2 h3 1 rfl rfl 4 (by decide) (C.ts _ hl) (fun _ h => h) rfl (ok_F 4 (by decide)) rfl rfl (Nat.le_of_ble_eq_true rfl) d (fun H1 locs1 g1 g2 g3 => k H1 locs1 ls g1 g2 g3 h4)
theorem get_WC_1_kinds (C : Cx p s m args c cc nL own) (hK : va_K D classes (tys cs) s) {idx : Nat} (hl : Cond.fieldLink own idx "TentPegs$Field" "kinds" "[I" ∈ TT) (d : decode cc pc = .ok (.getfield idx, 3)) (hp : pc + 3 = pc1) (k : G p l e R s m args below meth c Q D A nL (WC ad cs μ) pc1 L (.ref (ad 2) :: rest)) : G p l e R s m args below meth c Q D A nL (WC ad cs μ) pc L (.ref (ad 1) :: rest) := by
  subst hp
  intro H locs ls h1 h2 h3 h4
  exact va_get C.x C.b C.ts in_F C.own hK h1 1 rfl rfl 5 (by decide) (C.ts _ hl) (fun _ h => h) rfl d (k H locs ls h1 h2 h3 h4)
theorem get_WC_1_depths (C : Cx p s m args c cc nL own) (hK : va_K D classes (tys cs) s) {idx : Nat} (hl : Cond.fieldLink own idx "TentPegs$Field" "depths" "[I" ∈ TT) (d : decode cc pc = .ok (.getfield idx, 3)) (hp : pc + 3 = pc1) (k : G p l e R s m args below meth c Q D A nL (WC ad cs μ) pc1 L (.ref (ad 3) :: rest)) : G p l e R s m args below meth c Q D A nL (WC ad cs μ) pc L (.ref (ad 1) :: rest) := by
  subst hp
  intro H locs ls h1 h2 h3 h4
  exact va_get C.x C.b C.ts in_F C.own hK h1 1 rfl rfl 6 (by decide) (C.ts _ hl) (fun _ h => h) rfl d (k H locs ls h1 h2 h3 h4)
theorem get_WC_1_grounds (C : Cx p s m args c cc nL own) (hK : va_K D classes (tys cs) s) {idx : Nat} (hl : Cond.fieldLink own idx "TentPegs$Field" "grounds" "[I" ∈ TT) (d : decode cc pc = .ok (.getfield idx, 3)) (hp : pc + 3 = pc1) (k : G p l e R s m args below meth c Q D A nL (WC ad cs μ) pc1 L (.ref (ad 4) :: rest)) : G p l e R s m args below meth c Q D A nL (WC ad cs μ) pc L (.ref (ad 1) :: rest) := by
  subst hp
  intro H locs ls h1 h2 h3 h4
  exact va_get C.x C.b C.ts in_F C.own hK h1 1 rfl rfl 7 (by decide) (C.ts _ hl) (fun _ h => h) rfl d (k H locs ls h1 h2 h3 h4)
theorem get_WC_1_chances (C : Cx p s m args c cc nL own) (hK : va_K D classes (tys cs) s) {idx : Nat} (hl : Cond.fieldLink own idx "TentPegs$Field" "chances" "[I" ∈ TT) (d : decode cc pc = .ok (.getfield idx, 3)) (hp : pc + 3 = pc1) (k : G p l e R s m args below meth c Q D A nL (WC ad cs μ) pc1 L (.ref (ad 5) :: rest)) : G p l e R s m args below meth c Q D A nL (WC ad cs μ) pc L (.ref (ad 1) :: rest) := by
  subst hp
  intro H locs ls h1 h2 h3 h4
  exact va_get C.x C.b C.ts in_F C.own hK h1 1 rfl rfl 8 (by decide) (C.ts _ hl) (fun _ h => h) rfl d (k H locs ls h1 h2 h3 h4)
theorem get_WC_1_stoodBefore (C : Cx p s m args c cc nL own) (hK : va_K D classes (tys cs) s) {idx : Nat} (hl : Cond.fieldLink own idx "TentPegs$Field" "stoodBefore" "[I" ∈ TT) (d : decode cc pc = .ok (.getfield idx, 3)) (hp : pc + 3 = pc1) (k : G p l e R s m args below meth c Q D A nL (WC ad cs μ) pc1 L (.ref (ad 6) :: rest)) : G p l e R s m args below meth c Q D A nL (WC ad cs μ) pc L (.ref (ad 1) :: rest) := by
  subst hp
  intro H locs ls h1 h2 h3 h4
  exact va_get C.x C.b C.ts in_F C.own hK h1 1 rfl rfl 9 (by decide) (C.ts _ hl) (fun _ h => h) rfl d (k H locs ls h1 h2 h3 h4)
theorem get_WC_7_field (C : Cx p s m args c cc nL own) (hK : va_K D classes (tys cs) s) {idx : Nat} (hl : Cond.fieldLink own idx "TentPegs$Gale" "field" "LTentPegs$Field;" ∈ TT) (d : decode cc pc = .ok (.getfield idx, 3)) (hp : pc + 3 = pc1) (k : G p l e R s m args below meth c Q D A nL (WC ad cs μ) pc1 L (.ref (ad 1) :: rest)) : G p l e R s m args below meth c Q D A nL (WC ad cs μ) pc L (.ref (ad 7) :: rest) := by
  subst hp
  intro H locs ls h1 h2 h3 h4
  exact va_get C.x C.b C.ts in_G C.own hK h1 7 rfl rfl 0 (by decide) (C.ts _ hl) (fun _ h => h) rfl d (k H locs ls h1 h2 h3 h4)
theorem get_WC_7_pulls (C : Cx p s m args c cc nL own) (hK : va_K D classes (tys cs) s) {idx : Nat} (hl : Cond.fieldLink own idx "TentPegs$Gale" "pulls" "[I" ∈ TT) (d : decode cc pc = .ok (.getfield idx, 3)) (hp : pc + 3 = pc1) (k : G p l e R s m args below meth c Q D A nL (WC ad cs μ) pc1 L (.ref (ad 8) :: rest)) : G p l e R s m args below meth c Q D A nL (WC ad cs μ) pc L (.ref (ad 7) :: rest) := by
  subst hp
  intro H locs ls h1 h2 h3 h4
  exact va_get C.x C.b C.ts in_G C.own hK h1 7 rfl rfl 1 (by decide) (C.ts _ hl) (fun _ h => h) rfl d (k H locs ls h1 h2 h3 h4)
theorem get_WC_7_went (C : Cx p s m args c cc nL own) (hK : va_K D classes (tys cs) s) {idx : Nat} (hl : Cond.fieldLink own idx "TentPegs$Gale" "went" "[I" ∈ TT) (d : decode cc pc = .ok (.getfield idx, 3)) (hp : pc + 3 = pc1) (k : G p l e R s m args below meth c Q D A nL (WC ad cs μ) pc1 L (.ref (ad 9) :: rest)) : G p l e R s m args below meth c Q D A nL (WC ad cs μ) pc L (.ref (ad 7) :: rest) := by
  subst hp
  intro H locs ls h1 h2 h3 h4
  exact va_get C.x C.b C.ts in_G C.own hK h1 7 rfl rfl 2 (by decide) (C.ts _ hl) (fun _ h => h) rfl d (k H locs ls h1 h2 h3 h4)
theorem get_WC_7_gone (C : Cx p s m args c cc nL own) (hK : va_K D classes (tys cs) s) {idx : Nat} {v : Int32} (hv : μ.1 7 3 = v) (hl : Cond.fieldLink own idx "TentPegs$Gale" "gone" "I" ∈ TT) (d : decode cc pc = .ok (.getfield idx, 3)) (hp : pc + 3 = pc1) (k : G p l e R s m args below meth c Q D A nL (WC ad cs μ) pc1 L (.int v :: rest)) : G p l e R s m args below meth c Q D A nL (WC ad cs μ) pc L (.ref (ad 7) :: rest) := by
  subst hp
  subst hv
  intro H locs ls h1 h2 h3 h4
  exact va_get C.x C.b C.ts in_G C.own hK h1 7 rfl rfl 3 (by decide) (C.ts _ hl) (fun _ h => h) rfl d (k H locs ls h1 h2 h3 h4)
theorem put_WC_7_gone (C : Cx p s m args c cc nL own) (hK : va_K D classes (tys cs) s) {idx : Nat} {v : Int32} (hl : Cond.fieldLink own idx "TentPegs$Gale" "gone" "I" ∈ TT) (d : decode cc pc = .ok (.putfield idx, 3)) (hp : pc + 3 = pc1) (k : G p l e R s m args below meth c Q D A nL (WC ad cs (stI μ 7 3 v)) pc1 L rest) : G p l e R s m args below meth c Q D A nL (WC ad cs μ) pc L (.int v :: .ref (ad 7) :: rest) := by
  subst hp
  intro H locs ls h1 h2 h3 h4
  exact va_put C.x C.b C.ts in_G ty_G ok_G nm_G C.own hK h1 h2 h3 7 rfl rfl 3 (by decide) (C.ts _ hl) (fun _ h => h) rfl (ok_G 3 (by decide)) rfl rfl (Nat.le_of_ble_eq_true rfl) d (fun H1 locs1 g1 g2 g3 => k H1 locs1 ls g1 g2 g3 h4)
theorem get_WC_7_standing (C : Cx p s m args c cc nL own) (hK : va_K D classes (tys cs) s) {idx : Nat} {v : Int32} (hv : μ.1 7 4 = v) (hl : Cond.fieldLink own idx "TentPegs$Gale" "standing" "I" ∈ TT) (d : decode cc pc = .ok (.getfield idx, 3)) (hp : pc + 3 = pc1) (k : G p l e R s m args below meth c Q D A nL (WC ad cs μ) pc1 L (.int v :: rest)) : G p l e R s m args below meth c Q D A nL (WC ad cs μ) pc L (.ref (ad 7) :: rest) := by
  subst hp
  subst hv
  intro H locs ls h1 h2 h3 h4
  exact va_get C.x C.b C.ts in_G C.own hK h1 7 rfl rfl 4 (by decide) (C.ts _ hl) (fun _ h => h) rfl d (k H locs ls h1 h2 h3 h4)
theorem put_WC_7_standing (C : Cx p s m args c cc nL own) (hK : va_K D classes (tys cs) s) {idx : Nat} {v : Int32} (hl : Cond.fieldLink own idx "TentPegs$Gale" "standing" "I" ∈ TT) (d : decode cc pc = .ok (.putfield idx, 3)) (hp : pc + 3 = pc1) (k : G p l e R s m args below meth c Q D A nL (WC ad cs (stI μ 7 4 v)) pc1 L rest) : G p l e R s m args below meth c Q D A nL (WC ad cs μ) pc L (.int v :: .ref (ad 7) :: rest) := by
  subst hp
  intro H locs ls h1 h2 h3 h4
  exact va_put C.x C.b C.ts in_G ty_G ok_G nm_G C.own hK h1 h2 h3 7 rfl rfl 4 (by decide) (C.ts _ hl) (fun _ h => h) rfl (ok_G 4 (by decide)) rfl rfl (Nat.le_of_ble_eq_true rfl) d (fun H1 locs1 g1 g2 g3 => k H1 locs1 ls g1 g2 g3 h4)
theorem get_WC_7_walls (C : Cx p s m args c cc nL own) (hK : va_K D classes (tys cs) s) {idx : Nat} {v : Int32} (hv : μ.1 7 5 = v) (hl : Cond.fieldLink own idx "TentPegs$Gale" "walls" "I" ∈ TT) (d : decode cc pc = .ok (.getfield idx, 3)) (hp : pc + 3 = pc1) (k : G p l e R s m args below meth c Q D A nL (WC ad cs μ) pc1 L (.int v :: rest)) : G p l e R s m args below meth c Q D A nL (WC ad cs μ) pc L (.ref (ad 7) :: rest) := by
  subst hp
  subst hv
  intro H locs ls h1 h2 h3 h4
  exact va_get C.x C.b C.ts in_G C.own hK h1 7 rfl rfl 5 (by decide) (C.ts _ hl) (fun _ h => h) rfl d (k H locs ls h1 h2 h3 h4)
theorem put_WC_7_walls (C : Cx p s m args c cc nL own) (hK : va_K D classes (tys cs) s) {idx : Nat} {v : Int32} (hl : Cond.fieldLink own idx "TentPegs$Gale" "walls" "I" ∈ TT) (d : decode cc pc = .ok (.putfield idx, 3)) (hp : pc + 3 = pc1) (k : G p l e R s m args below meth c Q D A nL (WC ad cs (stI μ 7 5 v)) pc1 L rest) : G p l e R s m args below meth c Q D A nL (WC ad cs μ) pc L (.int v :: .ref (ad 7) :: rest) := by
  subst hp
  intro H locs ls h1 h2 h3 h4
  exact va_put C.x C.b C.ts in_G ty_G ok_G nm_G C.own hK h1 h2 h3 7 rfl rfl 5 (by decide) (C.ts _ hl) (fun _ h => h) rfl (ok_G 5 (by decide)) rfl rfl (Nat.le_of_ble_eq_true rfl) d (fun H1 locs1 g1 g2 g3 => k H1 locs1 ls g1 g2 g3 h4)
theorem get_WC_7_turned (C : Cx p s m args c cc nL own) (hK : va_K D classes (tys cs) s) {idx : Nat} {v : Int32} (hv : μ.1 7 6 = v) (hl : Cond.fieldLink own idx "TentPegs$Gale" "turned" "I" ∈ TT) (d : decode cc pc = .ok (.getfield idx, 3)) (hp : pc + 3 = pc1) (k : G p l e R s m args below meth c Q D A nL (WC ad cs μ) pc1 L (.int v :: rest)) : G p l e R s m args below meth c Q D A nL (WC ad cs μ) pc L (.ref (ad 7) :: rest) := by
  subst hp
  subst hv
  intro H locs ls h1 h2 h3 h4
  exact va_get C.x C.b C.ts in_G C.own hK h1 7 rfl rfl 6 (by decide) (C.ts _ hl) (fun _ h => h) rfl d (k H locs ls h1 h2 h3 h4)
theorem put_WC_7_turned (C : Cx p s m args c cc nL own) (hK : va_K D classes (tys cs) s) {idx : Nat} {v : Int32} (hl : Cond.fieldLink own idx "TentPegs$Gale" "turned" "I" ∈ TT) (d : decode cc pc = .ok (.putfield idx, 3)) (hp : pc + 3 = pc1) (k : G p l e R s m args below meth c Q D A nL (WC ad cs (stI μ 7 6 v)) pc1 L rest) : G p l e R s m args below meth c Q D A nL (WC ad cs μ) pc L (.int v :: .ref (ad 7) :: rest) := by
  subst hp
  intro H locs ls h1 h2 h3 h4
  exact va_put C.x C.b C.ts in_G ty_G ok_G nm_G C.own hK h1 h2 h3 7 rfl rfl 6 (by decide) (C.ts _ hl) (fun _ h => h) rfl (ok_G 6 (by decide)) rfl rfl (Nat.le_of_ble_eq_true rfl) d (fun H1 locs1 g1 g2 g3 => k H1 locs1 ls g1 g2 g3 h4)
theorem get_WC_7_doubled (C : Cx p s m args c cc nL own) (hK : va_K D classes (tys cs) s) {idx : Nat} {v : Int32} (hv : μ.1 7 7 = v) (hl : Cond.fieldLink own idx "TentPegs$Gale" "doubled" "I" ∈ TT) (d : decode cc pc = .ok (.getfield idx, 3)) (hp : pc + 3 = pc1) (k : G p l e R s m args below meth c Q D A nL (WC ad cs μ) pc1 L (.int v :: rest)) : G p l e R s m args below meth c Q D A nL (WC ad cs μ) pc L (.ref (ad 7) :: rest) := by
  subst hp
  subst hv
  intro H locs ls h1 h2 h3 h4
  exact va_get C.x C.b C.ts in_G C.own hK h1 7 rfl rfl 7 (by decide) (C.ts _ hl) (fun _ h => h) rfl d (k H locs ls h1 h2 h3 h4)
theorem put_WC_7_doubled (C : Cx p s m args c cc nL own) (hK : va_K D classes (tys cs) s) {idx : Nat} {v : Int32} (hl : Cond.fieldLink own idx "TentPegs$Gale" "doubled" "I" ∈ TT) (d : decode cc pc = .ok (.putfield idx, 3)) (hp : pc + 3 = pc1) (k : G p l e R s m args below meth c Q D A nL (WC ad cs (stI μ 7 7 v)) pc1 L rest) : G p l e R s m args below meth c Q D A nL (WC ad cs μ) pc L (.int v :: .ref (ad 7) :: rest) := by
  subst hp
  intro H locs ls h1 h2 h3 h4
  exact va_put C.x C.b C.ts in_G ty_G ok_G nm_G C.own hK h1 h2 h3 7 rfl rfl 7 (by decide) (C.ts _ hl) (fun _ h => h) rfl (ok_G 7 (by decide)) rfl rfl (Nat.le_of_ble_eq_true rfl) d (fun H1 locs1 g1 g2 g3 => k H1 locs1 ls g1 g2 g3 h4)
theorem get_WC_10_field (C : Cx p s m args c cc nL own) (hK : va_K D classes (tys cs) s) {idx : Nat} (hl : Cond.fieldLink own idx "TentPegs$Plans" "field" "LTentPegs$Field;" ∈ TT) (d : decode cc pc = .ok (.getfield idx, 3)) (hp : pc + 3 = pc1) (k : G p l e R s m args below meth c Q D A nL (WC ad cs μ) pc1 L (.ref (ad 1) :: rest)) : G p l e R s m args below meth c Q D A nL (WC ad cs μ) pc L (.ref (ad 10) :: rest) := by
  subst hp
  intro H locs ls h1 h2 h3 h4
  exact va_get C.x C.b C.ts in_P C.own hK h1 10 rfl rfl 0 (by decide) (C.ts _ hl) (fun _ h => h) rfl d (k H locs ls h1 h2 h3 h4)
theorem get_WC_10_gale (C : Cx p s m args c cc nL own) (hK : va_K D classes (tys cs) s) {idx : Nat} (hl : Cond.fieldLink own idx "TentPegs$Plans" "gale" "LTentPegs$Gale;" ∈ TT) (d : decode cc pc = .ok (.getfield idx, 3)) (hp : pc + 3 = pc1) (k : G p l e R s m args below meth c Q D A nL (WC ad cs μ) pc1 L (.ref (ad 7) :: rest)) : G p l e R s m args below meth c Q D A nL (WC ad cs μ) pc L (.ref (ad 10) :: rest) := by
  subst hp
  intro H locs ls h1 h2 h3 h4
  exact va_get C.x C.b C.ts in_P C.own hK h1 10 rfl rfl 1 (by decide) (C.ts _ hl) (fun _ h => h) rfl d (k H locs ls h1 h2 h3 h4)
theorem get_WC_10_orders (C : Cx p s m args c cc nL own) (hK : va_K D classes (tys cs) s) {idx : Nat} (hl : Cond.fieldLink own idx "TentPegs$Plans" "orders" "[I" ∈ TT) (d : decode cc pc = .ok (.getfield idx, 3)) (hp : pc + 3 = pc1) (k : G p l e R s m args below meth c Q D A nL (WC ad cs μ) pc1 L (.ref (ad 11) :: rest)) : G p l e R s m args below meth c Q D A nL (WC ad cs μ) pc L (.ref (ad 10) :: rest) := by
  subst hp
  intro H locs ls h1 h2 h3 h4
  exact va_get C.x C.b C.ts in_P C.own hK h1 10 rfl rfl 2 (by decide) (C.ts _ hl) (fun _ h => h) rfl d (k H locs ls h1 h2 h3 h4)
theorem get_WC_10_needs (C : Cx p s m args c cc nL own) (hK : va_K D classes (tys cs) s) {idx : Nat} (hl : Cond.fieldLink own idx "TentPegs$Plans" "needs" "[I" ∈ TT) (d : decode cc pc = .ok (.getfield idx, 3)) (hp : pc + 3 = pc1) (k : G p l e R s m args below meth c Q D A nL (WC ad cs μ) pc1 L (.ref (ad 12) :: rest)) : G p l e R s m args below meth c Q D A nL (WC ad cs μ) pc L (.ref (ad 10) :: rest) := by
  subst hp
  intro H locs ls h1 h2 h3 h4
  exact va_get C.x C.b C.ts in_P C.own hK h1 10 rfl rfl 3 (by decide) (C.ts _ hl) (fun _ h => h) rfl d (k H locs ls h1 h2 h3 h4)
theorem get_WC_10_explained (C : Cx p s m args c cc nL own) (hK : va_K D classes (tys cs) s) {idx : Nat} {v : Int32} (hv : μ.1 10 4 = v) (hl : Cond.fieldLink own idx "TentPegs$Plans" "explained" "I" ∈ TT) (d : decode cc pc = .ok (.getfield idx, 3)) (hp : pc + 3 = pc1) (k : G p l e R s m args below meth c Q D A nL (WC ad cs μ) pc1 L (.int v :: rest)) : G p l e R s m args below meth c Q D A nL (WC ad cs μ) pc L (.ref (ad 10) :: rest) := by
  subst hp
  subst hv
  intro H locs ls h1 h2 h3 h4
  exact va_get C.x C.b C.ts in_P C.own hK h1 10 rfl rfl 4 (by decide) (C.ts _ hl) (fun _ h => h) rfl d (k H locs ls h1 h2 h3 h4)
theorem put_WC_10_explained (C : Cx p s m args c cc nL own) (hK : va_K D classes (tys cs) s) {idx : Nat} {v : Int32} (hl : Cond.fieldLink own idx "TentPegs$Plans" "explained" "I" ∈ TT) (d : decode cc pc = .ok (.putfield idx, 3)) (hp : pc + 3 = pc1) (k : G p l e R s m args below meth c Q D A nL (WC ad cs (stI μ 10 4 v)) pc1 L rest) : G p l e R s m args below meth c Q D A nL (WC ad cs μ) pc L (.int v :: .ref (ad 10) :: rest) := by
  subst hp
  intro H locs ls h1 h2 h3 h4
  exact va_put C.x C.b C.ts in_P ty_P ok_P nm_P C.own hK h1 h2 h3 10 rfl rfl 4 (by decide) (C.ts _ hl) (fun _ h => h) rfl (ok_P 4 (by decide)) rfl rfl (Nat.le_of_ble_eq_true rfl) d (fun H1 locs1 g1 g2 g3 => k H1 locs1 ls g1 g2 g3 h4)
theorem get_WC_10_firstExplained (C : Cx p s m args c cc nL own) (hK : va_K D classes (tys cs) s) {idx : Nat} {v : Int32} (hv : μ.1 10 5 = v) (hl : Cond.fieldLink own idx "TentPegs$Plans" "firstExplained" "I" ∈ TT) (d : decode cc pc = .ok (.getfield idx, 3)) (hp : pc + 3 = pc1) (k : G p l e R s m args below meth c Q D A nL (WC ad cs μ) pc1 L (.int v :: rest)) : G p l e R s m args below meth c Q D A nL (WC ad cs μ) pc L (.ref (ad 10) :: rest) := by
  subst hp
  subst hv
  intro H locs ls h1 h2 h3 h4
  exact va_get C.x C.b C.ts in_P C.own hK h1 10 rfl rfl 5 (by decide) (C.ts _ hl) (fun _ h => h) rfl d (k H locs ls h1 h2 h3 h4)
theorem put_WC_10_firstExplained (C : Cx p s m args c cc nL own) (hK : va_K D classes (tys cs) s) {idx : Nat} {v : Int32} (hl : Cond.fieldLink own idx "TentPegs$Plans" "firstExplained" "I" ∈ TT) (d : decode cc pc = .ok (.putfield idx, 3)) (hp : pc + 3 = pc1) (k : G p l e R s m args below meth c Q D A nL (WC ad cs (stI μ 10 5 v)) pc1 L rest) : G p l e R s m args below meth c Q D A nL (WC ad cs μ) pc L (.int v :: .ref (ad 10) :: rest) := by
  subst hp
  intro H locs ls h1 h2 h3 h4
  exact va_put C.x C.b C.ts in_P ty_P ok_P nm_P C.own hK h1 h2 h3 10 rfl rfl 5 (by decide) (C.ts _ hl) (fun _ h => h) rfl (ok_P 5 (by decide)) rfl rfl (Nat.le_of_ble_eq_true rfl) d (fun H1 locs1 g1 g2 g3 => k H1 locs1 ls g1 g2 g3 h4)
theorem get_WC_14_text (C : Cx p s m args c cc nL own) (hK : va_K D classes (tys cs) s) {idx : Nat} (hl : Cond.fieldLink own idx "TentPegs$Reader" "text" "[B" ∈ TT) (d : decode cc pc = .ok (.getfield idx, 3)) (hp : pc + 3 = pc1) (k : G p l e R s m args below meth c Q D A nL (WC ad cs μ) pc1 L (.ref (ad 13) :: rest)) : G p l e R s m args below meth c Q D A nL (WC ad cs μ) pc L (.ref (ad 14) :: rest) := by
  subst hp
  intro H locs ls h1 h2 h3 h4
  exact va_get C.x C.b C.ts in_R C.own hK h1 14 rfl rfl 0 (by decide) (C.ts _ hl) (fun _ h => h) rfl d (k H locs ls h1 h2 h3 h4)
theorem get_WC_14_numbers (C : Cx p s m args c cc nL own) (hK : va_K D classes (tys cs) s) {idx : Nat} (hl : Cond.fieldLink own idx "TentPegs$Reader" "numbers" "[I" ∈ TT) (d : decode cc pc = .ok (.getfield idx, 3)) (hp : pc + 3 = pc1) (k : G p l e R s m args below meth c Q D A nL (WC ad cs μ) pc1 L (.ref (ad 15) :: rest)) : G p l e R s m args below meth c Q D A nL (WC ad cs μ) pc L (.ref (ad 14) :: rest) := by
  subst hp
  intro H locs ls h1 h2 h3 h4
  exact va_get C.x C.b C.ts in_R C.own hK h1 14 rfl rfl 1 (by decide) (C.ts _ hl) (fun _ h => h) rfl d (k H locs ls h1 h2 h3 h4)
theorem get_WC_14_draft (C : Cx p s m args c cc nL own) (hK : va_K D classes (tys cs) s) {idx : Nat} (hl : Cond.fieldLink own idx "TentPegs$Reader" "draft" "LTentPegs$Field;" ∈ TT) (d : decode cc pc = .ok (.getfield idx, 3)) (hp : pc + 3 = pc1) (k : G p l e R s m args below meth c Q D A nL (WC ad cs μ) pc1 L (.ref (ad 16) :: rest)) : G p l e R s m args below meth c Q D A nL (WC ad cs μ) pc L (.ref (ad 14) :: rest) := by
  subst hp
  intro H locs ls h1 h2 h3 h4
  exact va_get C.x C.b C.ts in_R C.own hK h1 14 rfl rfl 2 (by decide) (C.ts _ hl) (fun _ h => h) rfl d (k H locs ls h1 h2 h3 h4)
theorem get_WC_14_length (C : Cx p s m args c cc nL own) (hK : va_K D classes (tys cs) s) {idx : Nat} {v : Int32} (hv : μ.1 14 3 = v) (hl : Cond.fieldLink own idx "TentPegs$Reader" "length" "I" ∈ TT) (d : decode cc pc = .ok (.getfield idx, 3)) (hp : pc + 3 = pc1) (k : G p l e R s m args below meth c Q D A nL (WC ad cs μ) pc1 L (.int v :: rest)) : G p l e R s m args below meth c Q D A nL (WC ad cs μ) pc L (.ref (ad 14) :: rest) := by
  subst hp
  subst hv
  intro H locs ls h1 h2 h3 h4
  exact va_get C.x C.b C.ts in_R C.own hK h1 14 rfl rfl 3 (by decide) (C.ts _ hl) (fun _ h => h) rfl d (k H locs ls h1 h2 h3 h4)
theorem put_WC_14_length (C : Cx p s m args c cc nL own) (hK : va_K D classes (tys cs) s) {idx : Nat} {v : Int32} (hl : Cond.fieldLink own idx "TentPegs$Reader" "length" "I" ∈ TT) (d : decode cc pc = .ok (.putfield idx, 3)) (hp : pc + 3 = pc1) (k : G p l e R s m args below meth c Q D A nL (WC ad cs (stI μ 14 3 v)) pc1 L rest) : G p l e R s m args below meth c Q D A nL (WC ad cs μ) pc L (.int v :: .ref (ad 14) :: rest) := by
  subst hp
  intro H locs ls h1 h2 h3 h4
  exact va_put C.x C.b C.ts in_R ty_R ok_R nm_R C.own hK h1 h2 h3 14 rfl rfl 3 (by decide) (C.ts _ hl) (fun _ h => h) rfl (ok_R 3 (by decide)) rfl rfl (Nat.le_of_ble_eq_true rfl) d (fun H1 locs1 g1 g2 g3 => k H1 locs1 ls g1 g2 g3 h4)
theorem get_WC_14_at (C : Cx p s m args c cc nL own) (hK : va_K D classes (tys cs) s) {idx : Nat} {v : Int32} (hv : μ.1 14 4 = v) (hl : Cond.fieldLink own idx "TentPegs$Reader" "at" "I" ∈ TT) (d : decode cc pc = .ok (.getfield idx, 3)) (hp : pc + 3 = pc1) (k : G p l e R s m args below meth c Q D A nL (WC ad cs μ) pc1 L (.int v :: rest)) : G p l e R s m args below meth c Q D A nL (WC ad cs μ) pc L (.ref (ad 14) :: rest) := by
  subst hp
  subst hv
  intro H locs ls h1 h2 h3 h4
  exact va_get C.x C.b C.ts in_R C.own hK h1 14 rfl rfl 4 (by decide) (C.ts _ hl) (fun _ h => h) rfl d (k H locs ls h1 h2 h3 h4)
theorem put_WC_14_at (C : Cx p s m args c cc nL own) (hK : va_K D classes (tys cs) s) {idx : Nat} {v : Int32} (hl : Cond.fieldLink own idx "TentPegs$Reader" "at" "I" ∈ TT) (d : decode cc pc = .ok (.putfield idx, 3)) (hp : pc + 3 = pc1) (k : G p l e R s m args below meth c Q D A nL (WC ad cs (stI μ 14 4 v)) pc1 L rest) : G p l e R s m args below meth c Q D A nL (WC ad cs μ) pc L (.int v :: .ref (ad 14) :: rest) := by
  subst hp
  intro H locs ls h1 h2 h3 h4
  exact va_put C.x C.b C.ts in_R ty_R ok_R nm_R C.own hK h1 h2 h3 14 rfl rfl 4 (by decide) (C.ts _ hl) (fun _ h => h) rfl (ok_R 4 (by decide)) rfl rfl (Nat.le_of_ble_eq_true rfl) d (fun H1 locs1 g1 g2 g3 => k H1 locs1 ls g1 g2 g3 h4)
theorem get_WC_14_start (C : Cx p s m args c cc nL own) (hK : va_K D classes (tys cs) s) {idx : Nat} {v : Int32} (hv : μ.1 14 5 = v) (hl : Cond.fieldLink own idx "TentPegs$Reader" "start" "I" ∈ TT) (d : decode cc pc = .ok (.getfield idx, 3)) (hp : pc + 3 = pc1) (k : G p l e R s m args below meth c Q D A nL (WC ad cs μ) pc1 L (.int v :: rest)) : G p l e R s m args below meth c Q D A nL (WC ad cs μ) pc L (.ref (ad 14) :: rest) := by
  subst hp
  subst hv
  intro H locs ls h1 h2 h3 h4
  exact va_get C.x C.b C.ts in_R C.own hK h1 14 rfl rfl 5 (by decide) (C.ts _ hl) (fun _ h => h) rfl d (k H locs ls h1 h2 h3 h4)
theorem put_WC_14_start (C : Cx p s m args c cc nL own) (hK : va_K D classes (tys cs) s) {idx : Nat} {v : Int32} (hl : Cond.fieldLink own idx "TentPegs$Reader" "start" "I" ∈ TT) (d : decode cc pc = .ok (.putfield idx, 3)) (hp : pc + 3 = pc1) (k : G p l e R s m args below meth c Q D A nL (WC ad cs (stI μ 14 5 v)) pc1 L rest) : G p l e R s m args below meth c Q D A nL (WC ad cs μ) pc L (.int v :: .ref (ad 14) :: rest) := by
  subst hp
  intro H locs ls h1 h2 h3 h4
  exact va_put C.x C.b C.ts in_R ty_R ok_R nm_R C.own hK h1 h2 h3 14 rfl rfl 5 (by decide) (C.ts _ hl) (fun _ h => h) rfl (ok_R 5 (by decide)) rfl rfl (Nat.le_of_ble_eq_true rfl) d (fun H1 locs1 g1 g2 g3 => k H1 locs1 ls g1 g2 g3 h4)
theorem get_WC_14_token (C : Cx p s m args c cc nL own) (hK : va_K D classes (tys cs) s) {idx : Nat} {v : Int32} (hv : μ.1 14 6 = v) (hl : Cond.fieldLink own idx "TentPegs$Reader" "token" "I" ∈ TT) (d : decode cc pc = .ok (.getfield idx, 3)) (hp : pc + 3 = pc1) (k : G p l e R s m args below meth c Q D A nL (WC ad cs μ) pc1 L (.int v :: rest)) : G p l e R s m args below meth c Q D A nL (WC ad cs μ) pc L (.ref (ad 14) :: rest) := by
  subst hp
  subst hv
  intro H locs ls h1 h2 h3 h4
  exact va_get C.x C.b C.ts in_R C.own hK h1 14 rfl rfl 6 (by decide) (C.ts _ hl) (fun _ h => h) rfl d (k H locs ls h1 h2 h3 h4)
theorem put_WC_14_token (C : Cx p s m args c cc nL own) (hK : va_K D classes (tys cs) s) {idx : Nat} {v : Int32} (hl : Cond.fieldLink own idx "TentPegs$Reader" "token" "I" ∈ TT) (d : decode cc pc = .ok (.putfield idx, 3)) (hp : pc + 3 = pc1) (k : G p l e R s m args below meth c Q D A nL (WC ad cs (stI μ 14 6 v)) pc1 L rest) : G p l e R s m args below meth c Q D A nL (WC ad cs μ) pc L (.int v :: .ref (ad 14) :: rest) := by
  subst hp
  intro H locs ls h1 h2 h3 h4
  exact va_put C.x C.b C.ts in_R ty_R ok_R nm_R C.own hK h1 h2 h3 14 rfl rfl 6 (by decide) (C.ts _ hl) (fun _ h => h) rfl (ok_R 6 (by decide)) rfl rfl (Nat.le_of_ble_eq_true rfl) d (fun H1 locs1 g1 g2 g3 => k H1 locs1 ls g1 g2 g3 h4)
theorem get_WC_14_number (C : Cx p s m args c cc nL own) (hK : va_K D classes (tys cs) s) {idx : Nat} {v : Int32} (hv : μ.1 14 7 = v) (hl : Cond.fieldLink own idx "TentPegs$Reader" "number" "I" ∈ TT) (d : decode cc pc = .ok (.getfield idx, 3)) (hp : pc + 3 = pc1) (k : G p l e R s m args below meth c Q D A nL (WC ad cs μ) pc1 L (.int v :: rest)) : G p l e R s m args below meth c Q D A nL (WC ad cs μ) pc L (.ref (ad 14) :: rest) := by
  subst hp
  subst hv
  intro H locs ls h1 h2 h3 h4
  exact va_get C.x C.b C.ts in_R C.own hK h1 14 rfl rfl 7 (by decide) (C.ts _ hl) (fun _ h => h) rfl d (k H locs ls h1 h2 h3 h4)
theorem put_WC_14_number (C : Cx p s m args c cc nL own) (hK : va_K D classes (tys cs) s) {idx : Nat} {v : Int32} (hl : Cond.fieldLink own idx "TentPegs$Reader" "number" "I" ∈ TT) (d : decode cc pc = .ok (.putfield idx, 3)) (hp : pc + 3 = pc1) (k : G p l e R s m args below meth c Q D A nL (WC ad cs (stI μ 14 7 v)) pc1 L rest) : G p l e R s m args below meth c Q D A nL (WC ad cs μ) pc L (.int v :: .ref (ad 14) :: rest) := by
  subst hp
  intro H locs ls h1 h2 h3 h4
  exact va_put C.x C.b C.ts in_R ty_R ok_R nm_R C.own hK h1 h2 h3 14 rfl rfl 7 (by decide) (C.ts _ hl) (fun _ h => h) rfl (ok_R 7 (by decide)) rfl rfl (Nat.le_of_ble_eq_true rfl) d (fun H1 locs1 g1 g2 g3 => k H1 locs1 ls g1 g2 g3 h4)
theorem get_WC_14_items (C : Cx p s m args c cc nL own) (hK : va_K D classes (tys cs) s) {idx : Nat} {v : Int32} (hv : μ.1 14 8 = v) (hl : Cond.fieldLink own idx "TentPegs$Reader" "items" "I" ∈ TT) (d : decode cc pc = .ok (.getfield idx, 3)) (hp : pc + 3 = pc1) (k : G p l e R s m args below meth c Q D A nL (WC ad cs μ) pc1 L (.int v :: rest)) : G p l e R s m args below meth c Q D A nL (WC ad cs μ) pc L (.ref (ad 14) :: rest) := by
  subst hp
  subst hv
  intro H locs ls h1 h2 h3 h4
  exact va_get C.x C.b C.ts in_R C.own hK h1 14 rfl rfl 8 (by decide) (C.ts _ hl) (fun _ h => h) rfl d (k H locs ls h1 h2 h3 h4)
theorem put_WC_14_items (C : Cx p s m args c cc nL own) (hK : va_K D classes (tys cs) s) {idx : Nat} {v : Int32} (hl : Cond.fieldLink own idx "TentPegs$Reader" "items" "I" ∈ TT) (d : decode cc pc = .ok (.putfield idx, 3)) (hp : pc + 3 = pc1) (k : G p l e R s m args below meth c Q D A nL (WC ad cs (stI μ 14 8 v)) pc1 L rest) : G p l e R s m args below meth c Q D A nL (WC ad cs μ) pc L (.int v :: .ref (ad 14) :: rest) := by
  subst hp
  intro H locs ls h1 h2 h3 h4
  exact va_put C.x C.b C.ts in_R ty_R ok_R nm_R C.own hK h1 h2 h3 14 rfl rfl 8 (by decide) (C.ts _ hl) (fun _ h => h) rfl (ok_R 8 (by decide)) rfl rfl (Nat.le_of_ble_eq_true rfl) d (fun H1 locs1 g1 g2 g3 => k H1 locs1 ls g1 g2 g3 h4)
theorem get_WC_14_fault (C : Cx p s m args c cc nL own) (hK : va_K D classes (tys cs) s) {idx : Nat} {v : Int32} (hv : μ.1 14 9 = v) (hl : Cond.fieldLink own idx "TentPegs$Reader" "fault" "I" ∈ TT) (d : decode cc pc = .ok (.getfield idx, 3)) (hp : pc + 3 = pc1) (k : G p l e R s m args below meth c Q D A nL (WC ad cs μ) pc1 L (.int v :: rest)) : G p l e R s m args below meth c Q D A nL (WC ad cs μ) pc L (.ref (ad 14) :: rest) := by
  subst hp
  subst hv
  intro H locs ls h1 h2 h3 h4
  exact va_get C.x C.b C.ts in_R C.own hK h1 14 rfl rfl 9 (by decide) (C.ts _ hl) (fun _ h => h) rfl d (k H locs ls h1 h2 h3 h4)
theorem put_WC_14_fault (C : Cx p s m args c cc nL own) (hK : va_K D classes (tys cs) s) {idx : Nat} {v : Int32} (hl : Cond.fieldLink own idx "TentPegs$Reader" "fault" "I" ∈ TT) (d : decode cc pc = .ok (.putfield idx, 3)) (hp : pc + 3 = pc1) (k : G p l e R s m args below meth c Q D A nL (WC ad cs (stI μ 14 9 v)) pc1 L rest) : G p l e R s m args below meth c Q D A nL (WC ad cs μ) pc L (.int v :: .ref (ad 14) :: rest) := by
  subst hp
  intro H locs ls h1 h2 h3 h4
  exact va_put C.x C.b C.ts in_R ty_R ok_R nm_R C.own hK h1 h2 h3 14 rfl rfl 9 (by decide) (C.ts _ hl) (fun _ h => h) rfl (ok_R 9 (by decide)) rfl rfl (Nat.le_of_ble_eq_true rfl) d (fun H1 locs1 g1 g2 g3 => k H1 locs1 ls g1 g2 g3 h4)
theorem get_WC_14_refused (C : Cx p s m args c cc nL own) (hK : va_K D classes (tys cs) s) {idx : Nat} {v : Int32} (hv : μ.1 14 10 = v) (hl : Cond.fieldLink own idx "TentPegs$Reader" "refused" "I" ∈ TT) (d : decode cc pc = .ok (.getfield idx, 3)) (hp : pc + 3 = pc1) (k : G p l e R s m args below meth c Q D A nL (WC ad cs μ) pc1 L (.int v :: rest)) : G p l e R s m args below meth c Q D A nL (WC ad cs μ) pc L (.ref (ad 14) :: rest) := by
  subst hp
  subst hv
  intro H locs ls h1 h2 h3 h4
  exact va_get C.x C.b C.ts in_R C.own hK h1 14 rfl rfl 10 (by decide) (C.ts _ hl) (fun _ h => h) rfl d (k H locs ls h1 h2 h3 h4)
theorem put_WC_14_refused (C : Cx p s m args c cc nL own) (hK : va_K D classes (tys cs) s) {idx : Nat} {v : Int32} (hl : Cond.fieldLink own idx "TentPegs$Reader" "refused" "I" ∈ TT) (d : decode cc pc = .ok (.putfield idx, 3)) (hp : pc + 3 = pc1) (k : G p l e R s m args below meth c Q D A nL (WC ad cs (stI μ 14 10 v)) pc1 L rest) : G p l e R s m args below meth c Q D A nL (WC ad cs μ) pc L (.int v :: .ref (ad 14) :: rest) := by
  subst hp
  intro H locs ls h1 h2 h3 h4
  exact va_put C.x C.b C.ts in_R ty_R ok_R nm_R C.own hK h1 h2 h3 14 rfl rfl 10 (by decide) (C.ts _ hl) (fun _ h => h) rfl (ok_R 10 (by decide)) rfl rfl (Nat.le_of_ble_eq_true rfl) d (fun H1 locs1 g1 g2 g3 => k H1 locs1 ls g1 g2 g3 h4)
theorem get_WC_16_pegs (C : Cx p s m args c cc nL own) (hK : va_K D classes (tys cs) s) {idx : Nat} {v : Int32} (hv : μ.1 16 0 = v) (hl : Cond.fieldLink own idx "TentPegs$Field" "pegs" "I" ∈ TT) (d : decode cc pc = .ok (.getfield idx, 3)) (hp : pc + 3 = pc1) (k : G p l e R s m args below meth c Q D A nL (WC ad cs μ) pc1 L (.int v :: rest)) : G p l e R s m args below meth c Q D A nL (WC ad cs μ) pc L (.ref (ad 16) :: rest) := by
  subst hp
  subst hv
  intro H locs ls h1 h2 h3 h4
  exact va_get C.x C.b C.ts in_F C.own hK h1 16 rfl rfl 0 (by decide) (C.ts _ hl) (fun _ h => h) rfl d (k H locs ls h1 h2 h3 h4)
theorem put_WC_16_pegs (C : Cx p s m args c cc nL own) (hK : va_K D classes (tys cs) s) {idx : Nat} {v : Int32} (hl : Cond.fieldLink own idx "TentPegs$Field" "pegs" "I" ∈ TT) (d : decode cc pc = .ok (.putfield idx, 3)) (hp : pc + 3 = pc1) (k : G p l e R s m args below meth c Q D A nL (WC ad cs (stI μ 16 0 v)) pc1 L rest) : G p l e R s m args below meth c Q D A nL (WC ad cs μ) pc L (.int v :: .ref (ad 16) :: rest) := by
  subst hp
  intro H locs ls h1 h2 h3 h4
  exact va_put C.x C.b C.ts in_F ty_F ok_F nm_F C.own hK h1 h2 h3 16 rfl rfl 0 (by decide) (C.ts _ hl) (fun _ h => h) rfl (ok_F 0 (by decide)) rfl rfl (Nat.le_of_ble_eq_true rfl) d (fun H1 locs1 g1 g2 g3 => k H1 locs1 ls g1 g2 g3 h4)
theorem get_WC_16_wetness (C : Cx p s m args c cc nL own) (hK : va_K D classes (tys cs) s) {idx : Nat} {v : Int32} (hv : μ.1 16 1 = v) (hl : Cond.fieldLink own idx "TentPegs$Field" "wetness" "I" ∈ TT) (d : decode cc pc = .ok (.getfield idx, 3)) (hp : pc + 3 = pc1) (k : G p l e R s m args below meth c Q D A nL (WC ad cs μ) pc1 L (.int v :: rest)) : G p l e R s m args below meth c Q D A nL (WC ad cs μ) pc L (.ref (ad 16) :: rest) := by
  subst hp
  subst hv
  intro H locs ls h1 h2 h3 h4
  exact va_get C.x C.b C.ts in_F C.own hK h1 16 rfl rfl 1 (by decide) (C.ts _ hl) (fun _ h => h) rfl d (k H locs ls h1 h2 h3 h4)
theorem put_WC_16_wetness (C : Cx p s m args c cc nL own) (hK : va_K D classes (tys cs) s) {idx : Nat} {v : Int32} (hl : Cond.fieldLink own idx "TentPegs$Field" "wetness" "I" ∈ TT) (d : decode cc pc = .ok (.putfield idx, 3)) (hp : pc + 3 = pc1) (k : G p l e R s m args below meth c Q D A nL (WC ad cs (stI μ 16 1 v)) pc1 L rest) : G p l e R s m args below meth c Q D A nL (WC ad cs μ) pc L (.int v :: .ref (ad 16) :: rest) := by
  subst hp
  intro H locs ls h1 h2 h3 h4
  exact va_put C.x C.b C.ts in_F ty_F ok_F nm_F C.own hK h1 h2 h3 16 rfl rfl 1 (by decide) (C.ts _ hl) (fun _ h => h) rfl (ok_F 1 (by decide)) rfl rfl (Nat.le_of_ble_eq_true rfl) d (fun H1 locs1 g1 g2 g3 => k H1 locs1 ls g1 g2 g3 h4)
theorem get_WC_16_walls (C : Cx p s m args c cc nL own) (hK : va_K D classes (tys cs) s) {idx : Nat} {v : Int32} (hv : μ.1 16 2 = v) (hl : Cond.fieldLink own idx "TentPegs$Field" "walls" "I" ∈ TT) (d : decode cc pc = .ok (.getfield idx, 3)) (hp : pc + 3 = pc1) (k : G p l e R s m args below meth c Q D A nL (WC ad cs μ) pc1 L (.int v :: rest)) : G p l e R s m args below meth c Q D A nL (WC ad cs μ) pc L (.ref (ad 16) :: rest) := by
  subst hp
  subst hv
  intro H locs ls h1 h2 h3 h4
  exact va_get C.x C.b C.ts in_F C.own hK h1 16 rfl rfl 2 (by decide) (C.ts _ hl) (fun _ h => h) rfl d (k H locs ls h1 h2 h3 h4)
theorem put_WC_16_walls (C : Cx p s m args c cc nL own) (hK : va_K D classes (tys cs) s) {idx : Nat} {v : Int32} (hl : Cond.fieldLink own idx "TentPegs$Field" "walls" "I" ∈ TT) (d : decode cc pc = .ok (.putfield idx, 3)) (hp : pc + 3 = pc1) (k : G p l e R s m args below meth c Q D A nL (WC ad cs (stI μ 16 2 v)) pc1 L rest) : G p l e R s m args below meth c Q D A nL (WC ad cs μ) pc L (.int v :: .ref (ad 16) :: rest) := by
  subst hp
  intro H locs ls h1 h2 h3 h4
  exact va_put C.x C.b C.ts in_F ty_F ok_F nm_F C.own hK h1 h2 h3 16 rfl rfl 2 (by decide) (C.ts _ hl) (fun _ h => h) rfl (ok_F 2 (by decide)) rfl rfl (Nat.le_of_ble_eq_true rfl) d (fun H1 locs1 g1 g2 g3 => k H1 locs1 ls g1 g2 g3 h4)
theorem get_WC_16_standing (C : Cx p s m args c cc nL own) (hK : va_K D classes (tys cs) s) {idx : Nat} {v : Int32} (hv : μ.1 16 3 = v) (hl : Cond.fieldLink own idx "TentPegs$Field" "standing" "I" ∈ TT) (d : decode cc pc = .ok (.getfield idx, 3)) (hp : pc + 3 = pc1) (k : G p l e R s m args below meth c Q D A nL (WC ad cs μ) pc1 L (.int v :: rest)) : G p l e R s m args below meth c Q D A nL (WC ad cs μ) pc L (.ref (ad 16) :: rest) := by
  subst hp
  subst hv
  intro H locs ls h1 h2 h3 h4
  exact va_get C.x C.b C.ts in_F C.own hK h1 16 rfl rfl 3 (by decide) (C.ts _ hl) (fun _ h => h) rfl d (k H locs ls h1 h2 h3 h4)
theorem put_WC_16_standing (C : Cx p s m args c cc nL own) (hK : va_K D classes (tys cs) s) {idx : Nat} {v : Int32} (hl : Cond.fieldLink own idx "TentPegs$Field" "standing" "I" ∈ TT) (d : decode cc pc = .ok (.putfield idx, 3)) (hp : pc + 3 = pc1) (k : G p l e R s m args below meth c Q D A nL (WC ad cs (stI μ 16 3 v)) pc1 L rest) : G p l e R s m args below meth c Q D A nL (WC ad cs μ) pc L (.int v :: .ref (ad 16) :: rest) := by
  subst hp
  intro H locs ls h1 h2 h3 h4
  exact va_put C.x C.b C.ts in_F ty_F ok_F nm_F C.own hK h1 h2 h3 16 rfl rfl 3 (by decide) (C.ts _ hl) (fun _ h => h) rfl (ok_F 3 (by decide)) rfl rfl (Nat.le_of_ble_eq_true rfl) d (fun H1 locs1 g1 g2 g3 => k H1 locs1 ls g1 g2 g3 h4)
theorem get_WC_16_undoable (C : Cx p s m args c cc nL own) (hK : va_K D classes (tys cs) s) {idx : Nat} {v : Int32} (hv : μ.1 16 4 = v) (hl : Cond.fieldLink own idx "TentPegs$Field" "undoable" "I" ∈ TT) (d : decode cc pc = .ok (.getfield idx, 3)) (hp : pc + 3 = pc1) (k : G p l e R s m args below meth c Q D A nL (WC ad cs μ) pc1 L (.int v :: rest)) : G p l e R s m args below meth c Q D A nL (WC ad cs μ) pc L (.ref (ad 16) :: rest) := by
  subst hp
  subst hv
  intro H locs ls h1 h2 h3 h4
  exact va_get C.x C.b C.ts in_F C.own hK h1 16 rfl rfl 4 (by decide) (C.ts _ hl) (fun _ h => h) rfl d (k H locs ls h1 h2 h3 h4)
theorem put_WC_16_undoable (C : Cx p s m args c cc nL own) (hK : va_K D classes (tys cs) s) {idx : Nat} {v : Int32} (hl : Cond.fieldLink own idx "TentPegs$Field" "undoable" "I" ∈ TT) (d : decode cc pc = .ok (.putfield idx, 3)) (hp : pc + 3 = pc1) (k : G p l e R s m args below meth c Q D A nL (WC ad cs (stI μ 16 4 v)) pc1 L rest) : G p l e R s m args below meth c Q D A nL (WC ad cs μ) pc L (.int v :: .ref (ad 16) :: rest) := by
  subst hp
  intro H locs ls h1 h2 h3 h4
  exact va_put C.x C.b C.ts in_F ty_F ok_F nm_F C.own hK h1 h2 h3 16 rfl rfl 4 (by decide) (C.ts _ hl) (fun _ h => h) rfl (ok_F 4 (by decide)) rfl rfl (Nat.le_of_ble_eq_true rfl) d (fun H1 locs1 g1 g2 g3 => k H1 locs1 ls g1 g2 g3 h4)
theorem get_WC_16_kinds (C : Cx p s m args c cc nL own) (hK : va_K D classes (tys cs) s) {idx : Nat} (hl : Cond.fieldLink own idx "TentPegs$Field" "kinds" "[I" ∈ TT) (d : decode cc pc = .ok (.getfield idx, 3)) (hp : pc + 3 = pc1) (k : G p l e R s m args below meth c Q D A nL (WC ad cs μ) pc1 L (.ref (ad 17) :: rest)) : G p l e R s m args below meth c Q D A nL (WC ad cs μ) pc L (.ref (ad 16) :: rest) := by
  subst hp
  intro H locs ls h1 h2 h3 h4
  exact va_get C.x C.b C.ts in_F C.own hK h1 16 rfl rfl 5 (by decide) (C.ts _ hl) (fun _ h => h) rfl d (k H locs ls h1 h2 h3 h4)
theorem get_WC_16_depths (C : Cx p s m args c cc nL own) (hK : va_K D classes (tys cs) s) {idx : Nat} (hl : Cond.fieldLink own idx "TentPegs$Field" "depths" "[I" ∈ TT) (d : decode cc pc = .ok (.getfield idx, 3)) (hp : pc + 3 = pc1) (k : G p l e R s m args below meth c Q D A nL (WC ad cs μ) pc1 L (.ref (ad 18) :: rest)) : G p l e R s m args below meth c Q D A nL (WC ad cs μ) pc L (.ref (ad 16) :: rest) := by
  subst hp
  intro H locs ls h1 h2 h3 h4
  exact va_get C.x C.b C.ts in_F C.own hK h1 16 rfl rfl 6 (by decide) (C.ts _ hl) (fun _ h => h) rfl d (k H locs ls h1 h2 h3 h4)
theorem get_WC_16_grounds (C : Cx p s m args c cc nL own) (hK : va_K D classes (tys cs) s) {idx : Nat} (hl : Cond.fieldLink own idx "TentPegs$Field" "grounds" "[I" ∈ TT) (d : decode cc pc = .ok (.getfield idx, 3)) (hp : pc + 3 = pc1) (k : G p l e R s m args below meth c Q D A nL (WC ad cs μ) pc1 L (.ref (ad 19) :: rest)) : G p l e R s m args below meth c Q D A nL (WC ad cs μ) pc L (.ref (ad 16) :: rest) := by
  subst hp
  intro H locs ls h1 h2 h3 h4
  exact va_get C.x C.b C.ts in_F C.own hK h1 16 rfl rfl 7 (by decide) (C.ts _ hl) (fun _ h => h) rfl d (k H locs ls h1 h2 h3 h4)
theorem get_WC_16_chances (C : Cx p s m args c cc nL own) (hK : va_K D classes (tys cs) s) {idx : Nat} (hl : Cond.fieldLink own idx "TentPegs$Field" "chances" "[I" ∈ TT) (d : decode cc pc = .ok (.getfield idx, 3)) (hp : pc + 3 = pc1) (k : G p l e R s m args below meth c Q D A nL (WC ad cs μ) pc1 L (.ref (ad 20) :: rest)) : G p l e R s m args below meth c Q D A nL (WC ad cs μ) pc L (.ref (ad 16) :: rest) := by
  subst hp
  intro H locs ls h1 h2 h3 h4
  exact va_get C.x C.b C.ts in_F C.own hK h1 16 rfl rfl 8 (by decide) (C.ts _ hl) (fun _ h => h) rfl d (k H locs ls h1 h2 h3 h4)
theorem get_WC_16_stoodBefore (C : Cx p s m args c cc nL own) (hK : va_K D classes (tys cs) s) {idx : Nat} (hl : Cond.fieldLink own idx "TentPegs$Field" "stoodBefore" "[I" ∈ TT) (d : decode cc pc = .ok (.getfield idx, 3)) (hp : pc + 3 = pc1) (k : G p l e R s m args below meth c Q D A nL (WC ad cs μ) pc1 L (.ref (ad 21) :: rest)) : G p l e R s m args below meth c Q D A nL (WC ad cs μ) pc L (.ref (ad 16) :: rest) := by
  subst hp
  intro H locs ls h1 h2 h3 h4
  exact va_get C.x C.b C.ts in_F C.own hK h1 16 rfl rfl 9 (by decide) (C.ts _ hl) (fun _ h => h) rfl d (k H locs ls h1 h2 h3 h4)
theorem get_WC_23_pegs (C : Cx p s m args c cc nL own) (hK : va_K D classes (tys cs) s) {idx : Nat} {v : Int32} (hv : μ.1 23 0 = v) (hl : Cond.fieldLink own idx "TentPegs$Field" "pegs" "I" ∈ TT) (d : decode cc pc = .ok (.getfield idx, 3)) (hp : pc + 3 = pc1) (k : G p l e R s m args below meth c Q D A nL (WC ad cs μ) pc1 L (.int v :: rest)) : G p l e R s m args below meth c Q D A nL (WC ad cs μ) pc L (.ref (ad 23) :: rest) := by
  subst hp
  subst hv
  intro H locs ls h1 h2 h3 h4
  exact va_get C.x C.b C.ts in_F C.own hK h1 23 rfl rfl 0 (by decide) (C.ts _ hl) (fun _ h => h) rfl d (k H locs ls h1 h2 h3 h4)
theorem put_WC_23_pegs (C : Cx p s m args c cc nL own) (hK : va_K D classes (tys cs) s) {idx : Nat} {v : Int32} (hl : Cond.fieldLink own idx "TentPegs$Field" "pegs" "I" ∈ TT) (d : decode cc pc = .ok (.putfield idx, 3)) (hp : pc + 3 = pc1) (k : G p l e R s m args below meth c Q D A nL (WC ad cs (stI μ 23 0 v)) pc1 L rest) : G p l e R s m args below meth c Q D A nL (WC ad cs μ) pc L (.int v :: .ref (ad 23) :: rest) := by
  subst hp
  intro H locs ls h1 h2 h3 h4
  exact va_put C.x C.b C.ts in_F ty_F ok_F nm_F C.own hK h1 h2 h3 23 rfl rfl 0 (by decide) (C.ts _ hl) (fun _ h => h) rfl (ok_F 0 (by decide)) rfl rfl (Nat.le_of_ble_eq_true rfl) d (fun H1 locs1 g1 g2 g3 => k H1 locs1 ls g1 g2 g3 h4)
theorem get_WC_23_wetness (C : Cx p s m args c cc nL own) (hK : va_K D classes (tys cs) s) {idx : Nat} {v : Int32} (hv : μ.1 23 1 = v) (hl : Cond.fieldLink own idx "TentPegs$Field" "wetness" "I" ∈ TT) (d : decode cc pc = .ok (.getfield idx, 3)) (hp : pc + 3 = pc1) (k : G p l e R s m args below meth c Q D A nL (WC ad cs μ) pc1 L (.int v :: rest)) : G p l e R s m args below meth c Q D A nL (WC ad cs μ) pc L (.ref (ad 23) :: rest) := by
  subst hp
  subst hv
  intro H locs ls h1 h2 h3 h4
  exact va_get C.x C.b C.ts in_F C.own hK h1 23 rfl rfl 1 (by decide) (C.ts _ hl) (fun _ h => h) rfl d (k H locs ls h1 h2 h3 h4)
theorem put_WC_23_wetness (C : Cx p s m args c cc nL own) (hK : va_K D classes (tys cs) s) {idx : Nat} {v : Int32} (hl : Cond.fieldLink own idx "TentPegs$Field" "wetness" "I" ∈ TT) (d : decode cc pc = .ok (.putfield idx, 3)) (hp : pc + 3 = pc1) (k : G p l e R s m args below meth c Q D A nL (WC ad cs (stI μ 23 1 v)) pc1 L rest) : G p l e R s m args below meth c Q D A nL (WC ad cs μ) pc L (.int v :: .ref (ad 23) :: rest) := by
  subst hp
  intro H locs ls h1 h2 h3 h4
  exact va_put C.x C.b C.ts in_F ty_F ok_F nm_F C.own hK h1 h2 h3 23 rfl rfl 1 (by decide) (C.ts _ hl) (fun _ h => h) rfl (ok_F 1 (by decide)) rfl rfl (Nat.le_of_ble_eq_true rfl) d (fun H1 locs1 g1 g2 g3 => k H1 locs1 ls g1 g2 g3 h4)
theorem get_WC_23_walls (C : Cx p s m args c cc nL own) (hK : va_K D classes (tys cs) s) {idx : Nat} {v : Int32} (hv : μ.1 23 2 = v) (hl : Cond.fieldLink own idx "TentPegs$Field" "walls" "I" ∈ TT) (d : decode cc pc = .ok (.getfield idx, 3)) (hp : pc + 3 = pc1) (k : G p l e R s m args below meth c Q D A nL (WC ad cs μ) pc1 L (.int v :: rest)) : G p l e R s m args below meth c Q D A nL (WC ad cs μ) pc L (.ref (ad 23) :: rest) := by
  subst hp
  subst hv
  intro H locs ls h1 h2 h3 h4
  exact va_get C.x C.b C.ts in_F C.own hK h1 23 rfl rfl 2 (by decide) (C.ts _ hl) (fun _ h => h) rfl d (k H locs ls h1 h2 h3 h4)
theorem put_WC_23_walls (C : Cx p s m args c cc nL own) (hK : va_K D classes (tys cs) s) {idx : Nat} {v : Int32} (hl : Cond.fieldLink own idx "TentPegs$Field" "walls" "I" ∈ TT) (d : decode cc pc = .ok (.putfield idx, 3)) (hp : pc + 3 = pc1) (k : G p l e R s m args below meth c Q D A nL (WC ad cs (stI μ 23 2 v)) pc1 L rest) : G p l e R s m args below meth c Q D A nL (WC ad cs μ) pc L (.int v :: .ref (ad 23) :: rest) := by
  subst hp
  intro H locs ls h1 h2 h3 h4
  exact va_put C.x C.b C.ts in_F ty_F ok_F nm_F C.own hK h1 h2 h3 23 rfl rfl 2 (by decide) (C.ts _ hl) (fun _ h => h) rfl (ok_F 2 (by decide)) rfl rfl (Nat.le_of_ble_eq_true rfl) d (fun H1 locs1 g1 g2 g3 => k H1 locs1 ls g1 g2 g3 h4)
theorem get_WC_23_standing (C : Cx p s m args c cc nL own) (hK : va_K D classes (tys cs) s) {idx : Nat} {v : Int32} (hv : μ.1 23 3 = v) (hl : Cond.fieldLink own idx "TentPegs$Field" "standing" "I" ∈ TT) (d : decode cc pc = .ok (.getfield idx, 3)) (hp : pc + 3 = pc1) (k : G p l e R s m args below meth c Q D A nL (WC ad cs μ) pc1 L (.int v :: rest)) : G p l e R s m args below meth c Q D A nL (WC ad cs μ) pc L (.ref (ad 23) :: rest) := by
  subst hp
  subst hv
  intro H locs ls h1 h2 h3 h4
  exact va_get C.x C.b C.ts in_F C.own hK h1 23 rfl rfl 3 (by decide) (C.ts _ hl) (fun _ h => h) rfl d (k H locs ls h1 h2 h3 h4)
theorem put_WC_23_standing (C : Cx p s m args c cc nL own) (hK : va_K D classes (tys cs) s) {idx : Nat} {v : Int32} (hl : Cond.fieldLink own idx "TentPegs$Field" "standing" "I" ∈ TT) (d : decode cc pc = .ok (.putfield idx, 3)) (hp : pc + 3 = pc1) (k : G p l e R s m args below meth c Q D A nL (WC ad cs (stI μ 23 3 v)) pc1 L rest) : G p l e R s m args below meth c Q D A nL (WC ad cs μ) pc L (.int v :: .ref (ad 23) :: rest) := by
  subst hp
  intro H locs ls h1 h2 h3 h4
  exact va_put C.x C.b C.ts in_F ty_F ok_F nm_F C.own hK h1 h2 h3 23 rfl rfl 3 (by decide) (C.ts _ hl) (fun _ h => h) rfl (ok_F 3 (by decide)) rfl rfl (Nat.le_of_ble_eq_true rfl) d (fun H1 locs1 g1 g2 g3 => k H1 locs1 ls g1 g2 g3 h4)
theorem get_WC_23_undoable (C : Cx p s m args c cc nL own) (hK : va_K D classes (tys cs) s) {idx : Nat} {v : Int32} (hv : μ.1 23 4 = v) (hl : Cond.fieldLink own idx "TentPegs$Field" "undoable" "I" ∈ TT) (d : decode cc pc = .ok (.getfield idx, 3)) (hp : pc + 3 = pc1) (k : G p l e R s m args below meth c Q D A nL (WC ad cs μ) pc1 L (.int v :: rest)) : G p l e R s m args below meth c Q D A nL (WC ad cs μ) pc L (.ref (ad 23) :: rest) := by
  subst hp
  subst hv
  intro H locs ls h1 h2 h3 h4
  exact va_get C.x C.b C.ts in_F C.own hK h1 23 rfl rfl 4 (by decide) (C.ts _ hl) (fun _ h => h) rfl d (k H locs ls h1 h2 h3 h4)
theorem put_WC_23_undoable (C : Cx p s m args c cc nL own) (hK : va_K D classes (tys cs) s) {idx : Nat} {v : Int32} (hl : Cond.fieldLink own idx "TentPegs$Field" "undoable" "I" ∈ TT) (d : decode cc pc = .ok (.putfield idx, 3)) (hp : pc + 3 = pc1) (k : G p l e R s m args below meth c Q D A nL (WC ad cs (stI μ 23 4 v)) pc1 L rest) : G p l e R s m args below meth c Q D A nL (WC ad cs μ) pc L (.int v :: .ref (ad 23) :: rest) := by
  subst hp
  intro H locs ls h1 h2 h3 h4
  exact va_put C.x C.b C.ts in_F ty_F ok_F nm_F C.own hK h1 h2 h3 23 rfl rfl 4 (by decide) (C.ts _ hl) (fun _ h => h) rfl (ok_F 4 (by decide)) rfl rfl (Nat.le_of_ble_eq_true rfl) d (fun H1 locs1 g1 g2 g3 => k H1 locs1 ls g1 g2 g3 h4)
theorem get_WC_23_kinds (C : Cx p s m args c cc nL own) (hK : va_K D classes (tys cs) s) {idx : Nat} (hl : Cond.fieldLink own idx "TentPegs$Field" "kinds" "[I" ∈ TT) (d : decode cc pc = .ok (.getfield idx, 3)) (hp : pc + 3 = pc1) (k : G p l e R s m args below meth c Q D A nL (WC ad cs μ) pc1 L (.ref (ad 24) :: rest)) : G p l e R s m args below meth c Q D A nL (WC ad cs μ) pc L (.ref (ad 23) :: rest) := by
  subst hp
  intro H locs ls h1 h2 h3 h4
  exact va_get C.x C.b C.ts in_F C.own hK h1 23 rfl rfl 5 (by decide) (C.ts _ hl) (fun _ h => h) rfl d (k H locs ls h1 h2 h3 h4)
theorem get_WC_23_depths (C : Cx p s m args c cc nL own) (hK : va_K D classes (tys cs) s) {idx : Nat} (hl : Cond.fieldLink own idx "TentPegs$Field" "depths" "[I" ∈ TT) (d : decode cc pc = .ok (.getfield idx, 3)) (hp : pc + 3 = pc1) (k : G p l e R s m args below meth c Q D A nL (WC ad cs μ) pc1 L (.ref (ad 25) :: rest)) : G p l e R s m args below meth c Q D A nL (WC ad cs μ) pc L (.ref (ad 23) :: rest) := by
  subst hp
  intro H locs ls h1 h2 h3 h4
  exact va_get C.x C.b C.ts in_F C.own hK h1 23 rfl rfl 6 (by decide) (C.ts _ hl) (fun _ h => h) rfl d (k H locs ls h1 h2 h3 h4)
theorem get_WC_23_grounds (C : Cx p s m args c cc nL own) (hK : va_K D classes (tys cs) s) {idx : Nat} (hl : Cond.fieldLink own idx "TentPegs$Field" "grounds" "[I" ∈ TT) (d : decode cc pc = .ok (.getfield idx, 3)) (hp : pc + 3 = pc1) (k : G p l e R s m args below meth c Q D A nL (WC ad cs μ) pc1 L (.ref (ad 26) :: rest)) : G p l e R s m args below meth c Q D A nL (WC ad cs μ) pc L (.ref (ad 23) :: rest) := by
  subst hp
  intro H locs ls h1 h2 h3 h4
  exact va_get C.x C.b C.ts in_F C.own hK h1 23 rfl rfl 7 (by decide) (C.ts _ hl) (fun _ h => h) rfl d (k H locs ls h1 h2 h3 h4)
theorem get_WC_23_chances (C : Cx p s m args c cc nL own) (hK : va_K D classes (tys cs) s) {idx : Nat} (hl : Cond.fieldLink own idx "TentPegs$Field" "chances" "[I" ∈ TT) (d : decode cc pc = .ok (.getfield idx, 3)) (hp : pc + 3 = pc1) (k : G p l e R s m args below meth c Q D A nL (WC ad cs μ) pc1 L (.ref (ad 27) :: rest)) : G p l e R s m args below meth c Q D A nL (WC ad cs μ) pc L (.ref (ad 23) :: rest) := by
  subst hp
  intro H locs ls h1 h2 h3 h4
  exact va_get C.x C.b C.ts in_F C.own hK h1 23 rfl rfl 8 (by decide) (C.ts _ hl) (fun _ h => h) rfl d (k H locs ls h1 h2 h3 h4)
theorem get_WC_23_stoodBefore (C : Cx p s m args c cc nL own) (hK : va_K D classes (tys cs) s) {idx : Nat} (hl : Cond.fieldLink own idx "TentPegs$Field" "stoodBefore" "[I" ∈ TT) (d : decode cc pc = .ok (.getfield idx, 3)) (hp : pc + 3 = pc1) (k : G p l e R s m args below meth c Q D A nL (WC ad cs μ) pc1 L (.ref (ad 28) :: rest)) : G p l e R s m args below meth c Q D A nL (WC ad cs μ) pc L (.ref (ad 23) :: rest) := by
  subst hp
  intro H locs ls h1 h2 h3 h4
  exact va_get C.x C.b C.ts in_F C.own hK h1 23 rfl rfl 9 (by decide) (C.ts _ hl) (fun _ h => h) rfl d (k H locs ls h1 h2 h3 h4)
theorem get_WC_29_pegs (C : Cx p s m args c cc nL own) (hK : va_K D classes (tys cs) s) {idx : Nat} {v : Int32} (hv : μ.1 29 0 = v) (hl : Cond.fieldLink own idx "TentPegs$Field" "pegs" "I" ∈ TT) (d : decode cc pc = .ok (.getfield idx, 3)) (hp : pc + 3 = pc1) (k : G p l e R s m args below meth c Q D A nL (WC ad cs μ) pc1 L (.int v :: rest)) : G p l e R s m args below meth c Q D A nL (WC ad cs μ) pc L (.ref (ad 29) :: rest) := by
  subst hp
  subst hv
  intro H locs ls h1 h2 h3 h4
  exact va_get C.x C.b C.ts in_F C.own hK h1 29 rfl rfl 0 (by decide) (C.ts _ hl) (fun _ h => h) rfl d (k H locs ls h1 h2 h3 h4)
theorem put_WC_29_pegs (C : Cx p s m args c cc nL own) (hK : va_K D classes (tys cs) s) {idx : Nat} {v : Int32} (hl : Cond.fieldLink own idx "TentPegs$Field" "pegs" "I" ∈ TT) (d : decode cc pc = .ok (.putfield idx, 3)) (hp : pc + 3 = pc1) (k : G p l e R s m args below meth c Q D A nL (WC ad cs (stI μ 29 0 v)) pc1 L rest) : G p l e R s m args below meth c Q D A nL (WC ad cs μ) pc L (.int v :: .ref (ad 29) :: rest) := by
  subst hp
  intro H locs ls h1 h2 h3 h4
  exact va_put C.x C.b C.ts in_F ty_F ok_F nm_F C.own hK h1 h2 h3 29 rfl rfl 0 (by decide) (C.ts _ hl) (fun _ h => h) rfl (ok_F 0 (by decide)) rfl rfl (Nat.le_of_ble_eq_true rfl) d (fun H1 locs1 g1 g2 g3 => k H1 locs1 ls g1 g2 g3 h4)
theorem get_WC_29_wetness (C : Cx p s m args c cc nL own) (hK : va_K D classes (tys cs) s) {idx : Nat} {v : Int32} (hv : μ.1 29 1 = v) (hl : Cond.fieldLink own idx "TentPegs$Field" "wetness" "I" ∈ TT) (d : decode cc pc = .ok (.getfield idx, 3)) (hp : pc + 3 = pc1) (k : G p l e R s m args below meth c Q D A nL (WC ad cs μ) pc1 L (.int v :: rest)) : G p l e R s m args below meth c Q D A nL (WC ad cs μ) pc L (.ref (ad 29) :: rest) := by
  subst hp
  subst hv
  intro H locs ls h1 h2 h3 h4
  exact va_get C.x C.b C.ts in_F C.own hK h1 29 rfl rfl 1 (by decide) (C.ts _ hl) (fun _ h => h) rfl d (k H locs ls h1 h2 h3 h4)
theorem put_WC_29_wetness (C : Cx p s m args c cc nL own) (hK : va_K D classes (tys cs) s) {idx : Nat} {v : Int32} (hl : Cond.fieldLink own idx "TentPegs$Field" "wetness" "I" ∈ TT) (d : decode cc pc = .ok (.putfield idx, 3)) (hp : pc + 3 = pc1) (k : G p l e R s m args below meth c Q D A nL (WC ad cs (stI μ 29 1 v)) pc1 L rest) : G p l e R s m args below meth c Q D A nL (WC ad cs μ) pc L (.int v :: .ref (ad 29) :: rest) := by
  subst hp
  intro H locs ls h1 h2 h3 h4
  exact va_put C.x C.b C.ts in_F ty_F ok_F nm_F C.own hK h1 h2 h3 29 rfl rfl 1 (by decide) (C.ts _ hl) (fun _ h => h) rfl (ok_F 1 (by decide)) rfl rfl (Nat.le_of_ble_eq_true rfl) d (fun H1 locs1 g1 g2 g3 => k H1 locs1 ls g1 g2 g3 h4)
theorem get_WC_29_walls (C : Cx p s m args c cc nL own) (hK : va_K D classes (tys cs) s) {idx : Nat} {v : Int32} (hv : μ.1 29 2 = v) (hl : Cond.fieldLink own idx "TentPegs$Field" "walls" "I" ∈ TT) (d : decode cc pc = .ok (.getfield idx, 3)) (hp : pc + 3 = pc1) (k : G p l e R s m args below meth c Q D A nL (WC ad cs μ) pc1 L (.int v :: rest)) : G p l e R s m args below meth c Q D A nL (WC ad cs μ) pc L (.ref (ad 29) :: rest) := by
  subst hp
  subst hv
  intro H locs ls h1 h2 h3 h4
  exact va_get C.x C.b C.ts in_F C.own hK h1 29 rfl rfl 2 (by decide) (C.ts _ hl) (fun _ h => h) rfl d (k H locs ls h1 h2 h3 h4)
theorem put_WC_29_walls (C : Cx p s m args c cc nL own) (hK : va_K D classes (tys cs) s) {idx : Nat} {v : Int32} (hl : Cond.fieldLink own idx "TentPegs$Field" "walls" "I" ∈ TT) (d : decode cc pc = .ok (.putfield idx, 3)) (hp : pc + 3 = pc1) (k : G p l e R s m args below meth c Q D A nL (WC ad cs (stI μ 29 2 v)) pc1 L rest) : G p l e R s m args below meth c Q D A nL (WC ad cs μ) pc L (.int v :: .ref (ad 29) :: rest) := by
  subst hp
  intro H locs ls h1 h2 h3 h4
  exact va_put C.x C.b C.ts in_F ty_F ok_F nm_F C.own hK h1 h2 h3 29 rfl rfl 2 (by decide) (C.ts _ hl) (fun _ h => h) rfl (ok_F 2 (by decide)) rfl rfl (Nat.le_of_ble_eq_true rfl) d (fun H1 locs1 g1 g2 g3 => k H1 locs1 ls g1 g2 g3 h4)
theorem get_WC_29_standing (C : Cx p s m args c cc nL own) (hK : va_K D classes (tys cs) s) {idx : Nat} {v : Int32} (hv : μ.1 29 3 = v) (hl : Cond.fieldLink own idx "TentPegs$Field" "standing" "I" ∈ TT) (d : decode cc pc = .ok (.getfield idx, 3)) (hp : pc + 3 = pc1) (k : G p l e R s m args below meth c Q D A nL (WC ad cs μ) pc1 L (.int v :: rest)) : G p l e R s m args below meth c Q D A nL (WC ad cs μ) pc L (.ref (ad 29) :: rest) := by
  subst hp
  subst hv
  intro H locs ls h1 h2 h3 h4
  exact va_get C.x C.b C.ts in_F C.own hK h1 29 rfl rfl 3 (by decide) (C.ts _ hl) (fun _ h => h) rfl d (k H locs ls h1 h2 h3 h4)
theorem put_WC_29_standing (C : Cx p s m args c cc nL own) (hK : va_K D classes (tys cs) s) {idx : Nat} {v : Int32} (hl : Cond.fieldLink own idx "TentPegs$Field" "standing" "I" ∈ TT) (d : decode cc pc = .ok (.putfield idx, 3)) (hp : pc + 3 = pc1) (k : G p l e R s m args below meth c Q D A nL (WC ad cs (stI μ 29 3 v)) pc1 L rest) : G p l e R s m args below meth c Q D A nL (WC ad cs μ) pc L (.int v :: .ref (ad 29) :: rest) := by
  subst hp
  intro H locs ls h1 h2 h3 h4
  exact va_put C.x C.b C.ts in_F ty_F ok_F nm_F C.own hK h1 h2 h3 29 rfl rfl 3 (by decide) (C.ts _ hl) (fun _ h => h) rfl (ok_F 3 (by decide)) rfl rfl (Nat.le_of_ble_eq_true rfl) d (fun H1 locs1 g1 g2 g3 => k H1 locs1 ls g1 g2 g3 h4)
theorem get_WC_29_undoable (C : Cx p s m args c cc nL own) (hK : va_K D classes (tys cs) s) {idx : Nat} {v : Int32} (hv : μ.1 29 4 = v) (hl : Cond.fieldLink own idx "TentPegs$Field" "undoable" "I" ∈ TT) (d : decode cc pc = .ok (.getfield idx, 3)) (hp : pc + 3 = pc1) (k : G p l e R s m args below meth c Q D A nL (WC ad cs μ) pc1 L (.int v :: rest)) : G p l e R s m args below meth c Q D A nL (WC ad cs μ) pc L (.ref (ad 29) :: rest) := by
  subst hp
  subst hv
  intro H locs ls h1 h2 h3 h4
  exact va_get C.x C.b C.ts in_F C.own hK h1 29 rfl rfl 4 (by decide) (C.ts _ hl) (fun _ h => h) rfl d (k H locs ls h1 h2 h3 h4)
theorem put_WC_29_undoable (C : Cx p s m args c cc nL own) (hK : va_K D classes (tys cs) s) {idx : Nat} {v : Int32} (hl : Cond.fieldLink own idx "TentPegs$Field" "undoable" "I" ∈ TT) (d : decode cc pc = .ok (.putfield idx, 3)) (hp : pc + 3 = pc1) (k : G p l e R s m args below meth c Q D A nL (WC ad cs (stI μ 29 4 v)) pc1 L rest) : G p l e R s m args below meth c Q D A nL (WC ad cs μ) pc L (.int v :: .ref (ad 29) :: rest) := by
  subst hp
  intro H locs ls h1 h2 h3 h4
  exact va_put C.x C.b C.ts in_F ty_F ok_F nm_F C.own hK h1 h2 h3 29 rfl rfl 4 (by decide) (C.ts _ hl) (fun _ h => h) rfl (ok_F 4 (by decide)) rfl rfl (Nat.le_of_ble_eq_true rfl) d (fun H1 locs1 g1 g2 g3 => k H1 locs1 ls g1 g2 g3 h4)
theorem get_WC_29_kinds (C : Cx p s m args c cc nL own) (hK : va_K D classes (tys cs) s) {idx : Nat} (hl : Cond.fieldLink own idx "TentPegs$Field" "kinds" "[I" ∈ TT) (d : decode cc pc = .ok (.getfield idx, 3)) (hp : pc + 3 = pc1) (k : G p l e R s m args below meth c Q D A nL (WC ad cs μ) pc1 L (.ref (ad 30) :: rest)) : G p l e R s m args below meth c Q D A nL (WC ad cs μ) pc L (.ref (ad 29) :: rest) := by
  subst hp
  intro H locs ls h1 h2 h3 h4
  exact va_get C.x C.b C.ts in_F C.own hK h1 29 rfl rfl 5 (by decide) (C.ts _ hl) (fun _ h => h) rfl d (k H locs ls h1 h2 h3 h4)
theorem get_WC_29_depths (C : Cx p s m args c cc nL own) (hK : va_K D classes (tys cs) s) {idx : Nat} (hl : Cond.fieldLink own idx "TentPegs$Field" "depths" "[I" ∈ TT) (d : decode cc pc = .ok (.getfield idx, 3)) (hp : pc + 3 = pc1) (k : G p l e R s m args below meth c Q D A nL (WC ad cs μ) pc1 L (.ref (ad 31) :: rest)) : G p l e R s m args below meth c Q D A nL (WC ad cs μ) pc L (.ref (ad 29) :: rest) := by
  subst hp
  intro H locs ls h1 h2 h3 h4
  exact va_get C.x C.b C.ts in_F C.own hK h1 29 rfl rfl 6 (by decide) (C.ts _ hl) (fun _ h => h) rfl d (k H locs ls h1 h2 h3 h4)
theorem get_WC_29_grounds (C : Cx p s m args c cc nL own) (hK : va_K D classes (tys cs) s) {idx : Nat} (hl : Cond.fieldLink own idx "TentPegs$Field" "grounds" "[I" ∈ TT) (d : decode cc pc = .ok (.getfield idx, 3)) (hp : pc + 3 = pc1) (k : G p l e R s m args below meth c Q D A nL (WC ad cs μ) pc1 L (.ref (ad 32) :: rest)) : G p l e R s m args below meth c Q D A nL (WC ad cs μ) pc L (.ref (ad 29) :: rest) := by
  subst hp
  intro H locs ls h1 h2 h3 h4
  exact va_get C.x C.b C.ts in_F C.own hK h1 29 rfl rfl 7 (by decide) (C.ts _ hl) (fun _ h => h) rfl d (k H locs ls h1 h2 h3 h4)
theorem get_WC_29_chances (C : Cx p s m args c cc nL own) (hK : va_K D classes (tys cs) s) {idx : Nat} (hl : Cond.fieldLink own idx "TentPegs$Field" "chances" "[I" ∈ TT) (d : decode cc pc = .ok (.getfield idx, 3)) (hp : pc + 3 = pc1) (k : G p l e R s m args below meth c Q D A nL (WC ad cs μ) pc1 L (.ref (ad 33) :: rest)) : G p l e R s m args below meth c Q D A nL (WC ad cs μ) pc L (.ref (ad 29) :: rest) := by
  subst hp
  intro H locs ls h1 h2 h3 h4
  exact va_get C.x C.b C.ts in_F C.own hK h1 29 rfl rfl 8 (by decide) (C.ts _ hl) (fun _ h => h) rfl d (k H locs ls h1 h2 h3 h4)
theorem get_WC_29_stoodBefore (C : Cx p s m args c cc nL own) (hK : va_K D classes (tys cs) s) {idx : Nat} (hl : Cond.fieldLink own idx "TentPegs$Field" "stoodBefore" "[I" ∈ TT) (d : decode cc pc = .ok (.getfield idx, 3)) (hp : pc + 3 = pc1) (k : G p l e R s m args below meth c Q D A nL (WC ad cs μ) pc1 L (.ref (ad 34) :: rest)) : G p l e R s m args below meth c Q D A nL (WC ad cs μ) pc L (.ref (ad 29) :: rest) := by
  subst hp
  intro H locs ls h1 h2 h3 h4
  exact va_get C.x C.b C.ts in_F C.own hK h1 29 rfl rfl 9 (by decide) (C.ts _ hl) (fun _ h => h) rfl d (k H locs ls h1 h2 h3 h4)
theorem get_WM_0_thrown (C : Cx p s m args c cc nL own) (hK : va_K D classes (tys cs) s) {idx : Nat} {v : Int32} (hv : μ.1 0 0 = v) (hl : Cond.fieldLink own idx "TentPegsModel" "thrown" "I" ∈ TT) (d : decode cc pc = .ok (.getfield idx, 3)) (hp : pc + 3 = pc1) (k : G p l e R s m args below meth c Q D A nL (WM ad cs μ) pc1 L (.int v :: rest)) : G p l e R s m args below meth c Q D A nL (WM ad cs μ) pc L (.ref (ad 0) :: rest) := by
  subst hp
  subst hv
  intro H locs ls h1 h2 h3 h4
  exact va_get C.x C.b C.ts in_M C.own hK h1 0 rfl rfl 0 (by decide) (C.ts _ hl) (fun _ h => h) rfl d (k H locs ls h1 h2 h3 h4)
theorem put_WM_0_thrown (C : Cx p s m args c cc nL own) (hK : va_K D classes (tys cs) s) {idx : Nat} {v : Int32} (hl : Cond.fieldLink own idx "TentPegsModel" "thrown" "I" ∈ TT) (d : decode cc pc = .ok (.putfield idx, 3)) (hp : pc + 3 = pc1) (k : G p l e R s m args below meth c Q D A nL (WM ad cs (stI μ 0 0 v)) pc1 L rest) : G p l e R s m args below meth c Q D A nL (WM ad cs μ) pc L (.int v :: .ref (ad 0) :: rest) := by
  subst hp
  intro H locs ls h1 h2 h3 h4
  exact va_put C.x C.b C.ts in_M ty_M ok_M nm_M C.own hK h1 h2 h3 0 rfl rfl 0 (by decide) (C.ts _ hl) (fun _ h => h) rfl (ok_M 0 (by decide)) rfl rfl (Nat.le_of_ble_eq_true rfl) d (fun H1 locs1 g1 g2 g3 => k H1 locs1 ls g1 g2 g3 h4)
theorem get_WM_0_refused (C : Cx p s m args c cc nL own) (hK : va_K D classes (tys cs) s) {idx : Nat} (hl : Cond.fieldLink own idx "TentPegsModel" "refused" "[I" ∈ TT) (d : decode cc pc = .ok (.getfield idx, 3)) (hp : pc + 3 = pc1) (k : G p l e R s m args below meth c Q D A nL (WM ad cs μ) pc1 L (.ref (ad 1) :: rest)) : G p l e R s m args below meth c Q D A nL (WM ad cs μ) pc L (.ref (ad 0) :: rest) := by
  subst hp
  intro H locs ls h1 h2 h3 h4
  exact va_get C.x C.b C.ts in_M C.own hK h1 0 rfl rfl 1 (by decide) (C.ts _ hl) (fun _ h => h) rfl d (k H locs ls h1 h2 h3 h4)
theorem get_WM_0_field (C : Cx p s m args c cc nL own) (hK : va_K D classes (tys cs) s) {idx : Nat} (hl : Cond.fieldLink own idx "TentPegsModel" "field" "[I" ∈ TT) (d : decode cc pc = .ok (.getfield idx, 3)) (hp : pc + 3 = pc1) (k : G p l e R s m args below meth c Q D A nL (WM ad cs μ) pc1 L (.ref (ad 2) :: rest)) : G p l e R s m args below meth c Q D A nL (WM ad cs μ) pc L (.ref (ad 0) :: rest) := by
  subst hp
  intro H locs ls h1 h2 h3 h4
  exact va_get C.x C.b C.ts in_M C.own hK h1 0 rfl rfl 2 (by decide) (C.ts _ hl) (fun _ h => h) rfl d (k H locs ls h1 h2 h3 h4)
theorem get_WM_0_aside (C : Cx p s m args c cc nL own) (hK : va_K D classes (tys cs) s) {idx : Nat} (hl : Cond.fieldLink own idx "TentPegsModel" "aside" "[I" ∈ TT) (d : decode cc pc = .ok (.getfield idx, 3)) (hp : pc + 3 = pc1) (k : G p l e R s m args below meth c Q D A nL (WM ad cs μ) pc1 L (.ref (ad 3) :: rest)) : G p l e R s m args below meth c Q D A nL (WM ad cs μ) pc L (.ref (ad 0) :: rest) := by
  subst hp
  intro H locs ls h1 h2 h3 h4
  exact va_get C.x C.b C.ts in_M C.own hK h1 0 rfl rfl 3 (by decide) (C.ts _ hl) (fun _ h => h) rfl d (k H locs ls h1 h2 h3 h4)
theorem get_WM_0_kept (C : Cx p s m args c cc nL own) (hK : va_K D classes (tys cs) s) {idx : Nat} (hl : Cond.fieldLink own idx "TentPegsModel" "kept" "[I" ∈ TT) (d : decode cc pc = .ok (.getfield idx, 3)) (hp : pc + 3 = pc1) (k : G p l e R s m args below meth c Q D A nL (WM ad cs μ) pc1 L (.ref (ad 4) :: rest)) : G p l e R s m args below meth c Q D A nL (WM ad cs μ) pc L (.ref (ad 0) :: rest) := by
  subst hp
  intro H locs ls h1 h2 h3 h4
  exact va_get C.x C.b C.ts in_M C.own hK h1 0 rfl rfl 4 (by decide) (C.ts _ hl) (fun _ h => h) rfl d (k H locs ls h1 h2 h3 h4)
theorem get_WM_0_isKept (C : Cx p s m args c cc nL own) (hK : va_K D classes (tys cs) s) {idx : Nat} (hl : Cond.fieldLink own idx "TentPegsModel" "isKept" "[Z" ∈ TT) (d : decode cc pc = .ok (.getfield idx, 3)) (hp : pc + 3 = pc1) (k : G p l e R s m args below meth c Q D A nL (WM ad cs μ) pc1 L (.ref (ad 5) :: rest)) : G p l e R s m args below meth c Q D A nL (WM ad cs μ) pc L (.ref (ad 0) :: rest) := by
  subst hp
  intro H locs ls h1 h2 h3 h4
  exact va_get C.x C.b C.ts in_M C.own hK h1 0 rfl rfl 5 (by decide) (C.ts _ hl) (fun _ h => h) rfl d (k H locs ls h1 h2 h3 h4)
theorem get_WM_0_text (C : Cx p s m args c cc nL own) (hK : va_K D classes (tys cs) s) {idx : Nat} (hl : Cond.fieldLink own idx "TentPegsModel" "text" "[I" ∈ TT) (d : decode cc pc = .ok (.getfield idx, 3)) (hp : pc + 3 = pc1) (k : G p l e R s m args below meth c Q D A nL (WM ad cs μ) pc1 L (.ref (ad 6) :: rest)) : G p l e R s m args below meth c Q D A nL (WM ad cs μ) pc L (.ref (ad 0) :: rest) := by
  subst hp
  intro H locs ls h1 h2 h3 h4
  exact va_get C.x C.b C.ts in_M C.own hK h1 0 rfl rfl 6 (by decide) (C.ts _ hl) (fun _ h => h) rfl d (k H locs ls h1 h2 h3 h4)
theorem get_WM_0_size (C : Cx p s m args c cc nL own) (hK : va_K D classes (tys cs) s) {idx : Nat} {v : Int32} (hv : μ.1 0 7 = v) (hl : Cond.fieldLink own idx "TentPegsModel" "size" "I" ∈ TT) (d : decode cc pc = .ok (.getfield idx, 3)) (hp : pc + 3 = pc1) (k : G p l e R s m args below meth c Q D A nL (WM ad cs μ) pc1 L (.int v :: rest)) : G p l e R s m args below meth c Q D A nL (WM ad cs μ) pc L (.ref (ad 0) :: rest) := by
  subst hp
  subst hv
  intro H locs ls h1 h2 h3 h4
  exact va_get C.x C.b C.ts in_M C.own hK h1 0 rfl rfl 7 (by decide) (C.ts _ hl) (fun _ h => h) rfl d (k H locs ls h1 h2 h3 h4)
theorem put_WM_0_size (C : Cx p s m args c cc nL own) (hK : va_K D classes (tys cs) s) {idx : Nat} {v : Int32} (hl : Cond.fieldLink own idx "TentPegsModel" "size" "I" ∈ TT) (d : decode cc pc = .ok (.putfield idx, 3)) (hp : pc + 3 = pc1) (k : G p l e R s m args below meth c Q D A nL (WM ad cs (stI μ 0 7 v)) pc1 L rest) : G p l e R s m args below meth c Q D A nL (WM ad cs μ) pc L (.int v :: .ref (ad 0) :: rest) := by
  subst hp
  intro H locs ls h1 h2 h3 h4
  exact va_put C.x C.b C.ts in_M ty_M ok_M nm_M C.own hK h1 h2 h3 0 rfl rfl 7 (by decide) (C.ts _ hl) (fun _ h => h) rfl (ok_M 7 (by decide)) rfl rfl (Nat.le_of_ble_eq_true rfl) d (fun H1 locs1 g1 g2 g3 => k H1 locs1 ls g1 g2 g3 h4)
theorem get_WM_0_at (C : Cx p s m args c cc nL own) (hK : va_K D classes (tys cs) s) {idx : Nat} {v : Int32} (hv : μ.1 0 8 = v) (hl : Cond.fieldLink own idx "TentPegsModel" "at" "I" ∈ TT) (d : decode cc pc = .ok (.getfield idx, 3)) (hp : pc + 3 = pc1) (k : G p l e R s m args below meth c Q D A nL (WM ad cs μ) pc1 L (.int v :: rest)) : G p l e R s m args below meth c Q D A nL (WM ad cs μ) pc L (.ref (ad 0) :: rest) := by
  subst hp
  subst hv
  intro H locs ls h1 h2 h3 h4
  exact va_get C.x C.b C.ts in_M C.own hK h1 0 rfl rfl 8 (by decide) (C.ts _ hl) (fun _ h => h) rfl d (k H locs ls h1 h2 h3 h4)
theorem put_WM_0_at (C : Cx p s m args c cc nL own) (hK : va_K D classes (tys cs) s) {idx : Nat} {v : Int32} (hl : Cond.fieldLink own idx "TentPegsModel" "at" "I" ∈ TT) (d : decode cc pc = .ok (.putfield idx, 3)) (hp : pc + 3 = pc1) (k : G p l e R s m args below meth c Q D A nL (WM ad cs (stI μ 0 8 v)) pc1 L rest) : G p l e R s m args below meth c Q D A nL (WM ad cs μ) pc L (.int v :: .ref (ad 0) :: rest) := by
  subst hp
  intro H locs ls h1 h2 h3 h4
  exact va_put C.x C.b C.ts in_M ty_M ok_M nm_M C.own hK h1 h2 h3 0 rfl rfl 8 (by decide) (C.ts _ hl) (fun _ h => h) rfl (ok_M 8 (by decide)) rfl rfl (Nat.le_of_ble_eq_true rfl) d (fun H1 locs1 g1 g2 g3 => k H1 locs1 ls g1 g2 g3 h4)
theorem get_WM_0_start (C : Cx p s m args c cc nL own) (hK : va_K D classes (tys cs) s) {idx : Nat} {v : Int32} (hv : μ.1 0 9 = v) (hl : Cond.fieldLink own idx "TentPegsModel" "start" "I" ∈ TT) (d : decode cc pc = .ok (.getfield idx, 3)) (hp : pc + 3 = pc1) (k : G p l e R s m args below meth c Q D A nL (WM ad cs μ) pc1 L (.int v :: rest)) : G p l e R s m args below meth c Q D A nL (WM ad cs μ) pc L (.ref (ad 0) :: rest) := by
  subst hp
  subst hv
  intro H locs ls h1 h2 h3 h4
  exact va_get C.x C.b C.ts in_M C.own hK h1 0 rfl rfl 9 (by decide) (C.ts _ hl) (fun _ h => h) rfl d (k H locs ls h1 h2 h3 h4)
theorem put_WM_0_start (C : Cx p s m args c cc nL own) (hK : va_K D classes (tys cs) s) {idx : Nat} {v : Int32} (hl : Cond.fieldLink own idx "TentPegsModel" "start" "I" ∈ TT) (d : decode cc pc = .ok (.putfield idx, 3)) (hp : pc + 3 = pc1) (k : G p l e R s m args below meth c Q D A nL (WM ad cs (stI μ 0 9 v)) pc1 L rest) : G p l e R s m args below meth c Q D A nL (WM ad cs μ) pc L (.int v :: .ref (ad 0) :: rest) := by
  subst hp
  intro H locs ls h1 h2 h3 h4
  exact va_put C.x C.b C.ts in_M ty_M ok_M nm_M C.own hK h1 h2 h3 0 rfl rfl 9 (by decide) (C.ts _ hl) (fun _ h => h) rfl (ok_M 9 (by decide)) rfl rfl (Nat.le_of_ble_eq_true rfl) d (fun H1 locs1 g1 g2 g3 => k H1 locs1 ls g1 g2 g3 h4)
theorem get_WM_0_token (C : Cx p s m args c cc nL own) (hK : va_K D classes (tys cs) s) {idx : Nat} {v : Int32} (hv : μ.1 0 10 = v) (hl : Cond.fieldLink own idx "TentPegsModel" "token" "I" ∈ TT) (d : decode cc pc = .ok (.getfield idx, 3)) (hp : pc + 3 = pc1) (k : G p l e R s m args below meth c Q D A nL (WM ad cs μ) pc1 L (.int v :: rest)) : G p l e R s m args below meth c Q D A nL (WM ad cs μ) pc L (.ref (ad 0) :: rest) := by
  subst hp
  subst hv
  intro H locs ls h1 h2 h3 h4
  exact va_get C.x C.b C.ts in_M C.own hK h1 0 rfl rfl 10 (by decide) (C.ts _ hl) (fun _ h => h) rfl d (k H locs ls h1 h2 h3 h4)
theorem put_WM_0_token (C : Cx p s m args c cc nL own) (hK : va_K D classes (tys cs) s) {idx : Nat} {v : Int32} (hl : Cond.fieldLink own idx "TentPegsModel" "token" "I" ∈ TT) (d : decode cc pc = .ok (.putfield idx, 3)) (hp : pc + 3 = pc1) (k : G p l e R s m args below meth c Q D A nL (WM ad cs (stI μ 0 10 v)) pc1 L rest) : G p l e R s m args below meth c Q D A nL (WM ad cs μ) pc L (.int v :: .ref (ad 0) :: rest) := by
  subst hp
  intro H locs ls h1 h2 h3 h4
  exact va_put C.x C.b C.ts in_M ty_M ok_M nm_M C.own hK h1 h2 h3 0 rfl rfl 10 (by decide) (C.ts _ hl) (fun _ h => h) rfl (ok_M 10 (by decide)) rfl rfl (Nat.le_of_ble_eq_true rfl) d (fun H1 locs1 g1 g2 g3 => k H1 locs1 ls g1 g2 g3 h4)
theorem get_WM_0_value (C : Cx p s m args c cc nL own) (hK : va_K D classes (tys cs) s) {idx : Nat} {v : Int64} (hv : μ.2 11 = v) (hl : Cond.fieldLink own idx "TentPegsModel" "value" "J" ∈ TT) (d : decode cc pc = .ok (.getfield idx, 3)) (hp : pc + 3 = pc1) (k : G p l e R s m args below meth c Q D A nL (WM ad cs μ) pc1 L (.long v :: rest)) : G p l e R s m args below meth c Q D A nL (WM ad cs μ) pc L (.ref (ad 0) :: rest) := by
  subst hp
  subst hv
  intro H locs ls h1 h2 h3 h4
  exact va_get C.x C.b C.ts in_M C.own hK h1 0 rfl rfl 11 (by decide) (C.ts _ hl) (fun _ h => h) rfl d (k H locs ls h1 h2 h3 h4)
theorem put_WM_0_value (C : Cx p s m args c cc nL own) (hK : va_K D classes (tys cs) s) {idx : Nat} {v : Int64} (hl : Cond.fieldLink own idx "TentPegsModel" "value" "J" ∈ TT) (d : decode cc pc = .ok (.putfield idx, 3)) (hp : pc + 3 = pc1) (k : G p l e R s m args below meth c Q D A nL (WM ad cs (stL μ 11 v)) pc1 L rest) : G p l e R s m args below meth c Q D A nL (WM ad cs μ) pc L (.long v :: .ref (ad 0) :: rest) := by
  subst hp
  intro H locs ls h1 h2 h3 h4
  exact va_put C.x C.b C.ts in_M ty_M ok_M nm_M C.own hK h1 h2 h3 0 rfl rfl 11 (by decide) (C.ts _ hl) (fun _ h => h) rfl (ok_M 11 (by decide)) rfl rfl (Nat.le_of_ble_eq_true rfl) d (fun H1 locs1 g1 g2 g3 => k H1 locs1 ls g1 g2 g3 h4)
theorem get_WM_0_item (C : Cx p s m args c cc nL own) (hK : va_K D classes (tys cs) s) {idx : Nat} (hl : Cond.fieldLink own idx "TentPegsModel" "item" "[I" ∈ TT) (d : decode cc pc = .ok (.getfield idx, 3)) (hp : pc + 3 = pc1) (k : G p l e R s m args below meth c Q D A nL (WM ad cs μ) pc1 L (.ref (ad 7) :: rest)) : G p l e R s m args below meth c Q D A nL (WM ad cs μ) pc L (.ref (ad 0) :: rest) := by
  subst hp
  intro H locs ls h1 h2 h3 h4
  exact va_get C.x C.b C.ts in_M C.own hK h1 0 rfl rfl 12 (by decide) (C.ts _ hl) (fun _ h => h) rfl d (k H locs ls h1 h2 h3 h4)
theorem get_WM_0_items (C : Cx p s m args c cc nL own) (hK : va_K D classes (tys cs) s) {idx : Nat} {v : Int32} (hv : μ.1 0 13 = v) (hl : Cond.fieldLink own idx "TentPegsModel" "items" "I" ∈ TT) (d : decode cc pc = .ok (.getfield idx, 3)) (hp : pc + 3 = pc1) (k : G p l e R s m args below meth c Q D A nL (WM ad cs μ) pc1 L (.int v :: rest)) : G p l e R s m args below meth c Q D A nL (WM ad cs μ) pc L (.ref (ad 0) :: rest) := by
  subst hp
  subst hv
  intro H locs ls h1 h2 h3 h4
  exact va_get C.x C.b C.ts in_M C.own hK h1 0 rfl rfl 13 (by decide) (C.ts _ hl) (fun _ h => h) rfl d (k H locs ls h1 h2 h3 h4)
theorem put_WM_0_items (C : Cx p s m args c cc nL own) (hK : va_K D classes (tys cs) s) {idx : Nat} {v : Int32} (hl : Cond.fieldLink own idx "TentPegsModel" "items" "I" ∈ TT) (d : decode cc pc = .ok (.putfield idx, 3)) (hp : pc + 3 = pc1) (k : G p l e R s m args below meth c Q D A nL (WM ad cs (stI μ 0 13 v)) pc1 L rest) : G p l e R s m args below meth c Q D A nL (WM ad cs μ) pc L (.int v :: .ref (ad 0) :: rest) := by
  subst hp
  intro H locs ls h1 h2 h3 h4
  exact va_put C.x C.b C.ts in_M ty_M ok_M nm_M C.own hK h1 h2 h3 0 rfl rfl 13 (by decide) (C.ts _ hl) (fun _ h => h) rfl (ok_M 13 (by decide)) rfl rfl (Nat.le_of_ble_eq_true rfl) d (fun H1 locs1 g1 g2 g3 => k H1 locs1 ls g1 g2 g3 h4)
theorem get_WM_0_pull (C : Cx p s m args c cc nL own) (hK : va_K D classes (tys cs) s) {idx : Nat} (hl : Cond.fieldLink own idx "TentPegsModel" "pull" "[I" ∈ TT) (d : decode cc pc = .ok (.getfield idx, 3)) (hp : pc + 3 = pc1) (k : G p l e R s m args below meth c Q D A nL (WM ad cs μ) pc1 L (.ref (ad 8) :: rest)) : G p l e R s m args below meth c Q D A nL (WM ad cs μ) pc L (.ref (ad 0) :: rest) := by
  subst hp
  intro H locs ls h1 h2 h3 h4
  exact va_get C.x C.b C.ts in_M C.own hK h1 0 rfl rfl 14 (by decide) (C.ts _ hl) (fun _ h => h) rfl d (k H locs ls h1 h2 h3 h4)
theorem get_WM_0_row (C : Cx p s m args c cc nL own) (hK : va_K D classes (tys cs) s) {idx : Nat} (hl : Cond.fieldLink own idx "TentPegsModel" "row" "[I" ∈ TT) (d : decode cc pc = .ok (.getfield idx, 3)) (hp : pc + 3 = pc1) (k : G p l e R s m args below meth c Q D A nL (WM ad cs μ) pc1 L (.ref (ad 9) :: rest)) : G p l e R s m args below meth c Q D A nL (WM ad cs μ) pc L (.ref (ad 0) :: rest) := by
  subst hp
  intro H locs ls h1 h2 h3 h4
  exact va_get C.x C.b C.ts in_M C.own hK h1 0 rfl rfl 15 (by decide) (C.ts _ hl) (fun _ h => h) rfl d (k H locs ls h1 h2 h3 h4)
theorem get_WM_0_gone (C : Cx p s m args c cc nL own) (hK : va_K D classes (tys cs) s) {idx : Nat} {v : Int32} (hv : μ.1 0 16 = v) (hl : Cond.fieldLink own idx "TentPegsModel" "gone" "I" ∈ TT) (d : decode cc pc = .ok (.getfield idx, 3)) (hp : pc + 3 = pc1) (k : G p l e R s m args below meth c Q D A nL (WM ad cs μ) pc1 L (.int v :: rest)) : G p l e R s m args below meth c Q D A nL (WM ad cs μ) pc L (.ref (ad 0) :: rest) := by
  subst hp
  subst hv
  intro H locs ls h1 h2 h3 h4
  exact va_get C.x C.b C.ts in_M C.own hK h1 0 rfl rfl 16 (by decide) (C.ts _ hl) (fun _ h => h) rfl d (k H locs ls h1 h2 h3 h4)
theorem put_WM_0_gone (C : Cx p s m args c cc nL own) (hK : va_K D classes (tys cs) s) {idx : Nat} {v : Int32} (hl : Cond.fieldLink own idx "TentPegsModel" "gone" "I" ∈ TT) (d : decode cc pc = .ok (.putfield idx, 3)) (hp : pc + 3 = pc1) (k : G p l e R s m args below meth c Q D A nL (WM ad cs (stI μ 0 16 v)) pc1 L rest) : G p l e R s m args below meth c Q D A nL (WM ad cs μ) pc L (.int v :: .ref (ad 0) :: rest) := by
  subst hp
  intro H locs ls h1 h2 h3 h4
  exact va_put C.x C.b C.ts in_M ty_M ok_M nm_M C.own hK h1 h2 h3 0 rfl rfl 16 (by decide) (C.ts _ hl) (fun _ h => h) rfl (ok_M 16 (by decide)) rfl rfl (Nat.le_of_ble_eq_true rfl) d (fun H1 locs1 g1 g2 g3 => k H1 locs1 ls g1 g2 g3 h4)
theorem get_WM_0_above (C : Cx p s m args c cc nL own) (hK : va_K D classes (tys cs) s) {idx : Nat} {v : Int64} (hv : μ.2 17 = v) (hl : Cond.fieldLink own idx "TentPegsModel" "above" "J" ∈ TT) (d : decode cc pc = .ok (.getfield idx, 3)) (hp : pc + 3 = pc1) (k : G p l e R s m args below meth c Q D A nL (WM ad cs μ) pc1 L (.long v :: rest)) : G p l e R s m args below meth c Q D A nL (WM ad cs μ) pc L (.ref (ad 0) :: rest) := by
  subst hp
  subst hv
  intro H locs ls h1 h2 h3 h4
  exact va_get C.x C.b C.ts in_M C.own hK h1 0 rfl rfl 17 (by decide) (C.ts _ hl) (fun _ h => h) rfl d (k H locs ls h1 h2 h3 h4)
theorem put_WM_0_above (C : Cx p s m args c cc nL own) (hK : va_K D classes (tys cs) s) {idx : Nat} {v : Int64} (hl : Cond.fieldLink own idx "TentPegsModel" "above" "J" ∈ TT) (d : decode cc pc = .ok (.putfield idx, 3)) (hp : pc + 3 = pc1) (k : G p l e R s m args below meth c Q D A nL (WM ad cs (stL μ 17 v)) pc1 L rest) : G p l e R s m args below meth c Q D A nL (WM ad cs μ) pc L (.long v :: .ref (ad 0) :: rest) := by
  subst hp
  intro H locs ls h1 h2 h3 h4
  exact va_put C.x C.b C.ts in_M ty_M ok_M nm_M C.own hK h1 h2 h3 0 rfl rfl 17 (by decide) (C.ts _ hl) (fun _ h => h) rfl (ok_M 17 (by decide)) rfl rfl (Nat.le_of_ble_eq_true rfl) d (fun H1 locs1 g1 g2 g3 => k H1 locs1 ls g1 g2 g3 h4)
theorem get_WM_0_below (C : Cx p s m args c cc nL own) (hK : va_K D classes (tys cs) s) {idx : Nat} {v : Int64} (hv : μ.2 18 = v) (hl : Cond.fieldLink own idx "TentPegsModel" "below" "J" ∈ TT) (d : decode cc pc = .ok (.getfield idx, 3)) (hp : pc + 3 = pc1) (k : G p l e R s m args below meth c Q D A nL (WM ad cs μ) pc1 L (.long v :: rest)) : G p l e R s m args below meth c Q D A nL (WM ad cs μ) pc L (.ref (ad 0) :: rest) := by
  subst hp
  subst hv
  intro H locs ls h1 h2 h3 h4
  exact va_get C.x C.b C.ts in_M C.own hK h1 0 rfl rfl 18 (by decide) (C.ts _ hl) (fun _ h => h) rfl d (k H locs ls h1 h2 h3 h4)
theorem put_WM_0_below (C : Cx p s m args c cc nL own) (hK : va_K D classes (tys cs) s) {idx : Nat} {v : Int64} (hl : Cond.fieldLink own idx "TentPegsModel" "below" "J" ∈ TT) (d : decode cc pc = .ok (.putfield idx, 3)) (hp : pc + 3 = pc1) (k : G p l e R s m args below meth c Q D A nL (WM ad cs (stL μ 18 v)) pc1 L rest) : G p l e R s m args below meth c Q D A nL (WM ad cs μ) pc L (.long v :: .ref (ad 0) :: rest) := by
  subst hp
  intro H locs ls h1 h2 h3 h4
  exact va_put C.x C.b C.ts in_M ty_M ok_M nm_M C.own hK h1 h2 h3 0 rfl rfl 18 (by decide) (C.ts _ hl) (fun _ h => h) rfl (ok_M 18 (by decide)) rfl rfl (Nat.le_of_ble_eq_true rfl) d (fun H1 locs1 g1 g2 g3 => k H1 locs1 ls g1 g2 g3 h4)
theorem get_WM_0_orders (C : Cx p s m args c cc nL own) (hK : va_K D classes (tys cs) s) {idx : Nat} (hl : Cond.fieldLink own idx "TentPegsModel" "orders" "[I" ∈ TT) (d : decode cc pc = .ok (.getfield idx, 3)) (hp : pc + 3 = pc1) (k : G p l e R s m args below meth c Q D A nL (WM ad cs μ) pc1 L (.ref (ad 10) :: rest)) : G p l e R s m args below meth c Q D A nL (WM ad cs μ) pc L (.ref (ad 0) :: rest) := by
  subst hp
  intro H locs ls h1 h2 h3 h4
  exact va_get C.x C.b C.ts in_M C.own hK h1 0 rfl rfl 19 (by decide) (C.ts _ hl) (fun _ h => h) rfl d (k H locs ls h1 h2 h3 h4)
theorem get_WM_0_drawn (C : Cx p s m args c cc nL own) (hK : va_K D classes (tys cs) s) {idx : Nat} {v : Int64} (hv : μ.2 20 = v) (hl : Cond.fieldLink own idx "TentPegsModel" "drawn" "J" ∈ TT) (d : decode cc pc = .ok (.getfield idx, 3)) (hp : pc + 3 = pc1) (k : G p l e R s m args below meth c Q D A nL (WM ad cs μ) pc1 L (.long v :: rest)) : G p l e R s m args below meth c Q D A nL (WM ad cs μ) pc L (.ref (ad 0) :: rest) := by
  subst hp
  subst hv
  intro H locs ls h1 h2 h3 h4
  exact va_get C.x C.b C.ts in_M C.own hK h1 0 rfl rfl 20 (by decide) (C.ts _ hl) (fun _ h => h) rfl d (k H locs ls h1 h2 h3 h4)
theorem put_WM_0_drawn (C : Cx p s m args c cc nL own) (hK : va_K D classes (tys cs) s) {idx : Nat} {v : Int64} (hl : Cond.fieldLink own idx "TentPegsModel" "drawn" "J" ∈ TT) (d : decode cc pc = .ok (.putfield idx, 3)) (hp : pc + 3 = pc1) (k : G p l e R s m args below meth c Q D A nL (WM ad cs (stL μ 20 v)) pc1 L rest) : G p l e R s m args below meth c Q D A nL (WM ad cs μ) pc L (.long v :: .ref (ad 0) :: rest) := by
  subst hp
  intro H locs ls h1 h2 h3 h4
  exact va_put C.x C.b C.ts in_M ty_M ok_M nm_M C.own hK h1 h2 h3 0 rfl rfl 20 (by decide) (C.ts _ hl) (fun _ h => h) rfl (ok_M 20 (by decide)) rfl rfl (Nat.le_of_ble_eq_true rfl) d (fun H1 locs1 g1 g2 g3 => k H1 locs1 ls g1 g2 g3 h4)
theorem get_WM_0_lostBehind (C : Cx p s m args c cc nL own) (hK : va_K D classes (tys cs) s) {idx : Nat} {v : Int32} (hv : μ.1 0 21 = v) (hl : Cond.fieldLink own idx "TentPegsModel" "lostBehind" "I" ∈ TT) (d : decode cc pc = .ok (.getfield idx, 3)) (hp : pc + 3 = pc1) (k : G p l e R s m args below meth c Q D A nL (WM ad cs μ) pc1 L (.int v :: rest)) : G p l e R s m args below meth c Q D A nL (WM ad cs μ) pc L (.ref (ad 0) :: rest) := by
  subst hp
  subst hv
  intro H locs ls h1 h2 h3 h4
  exact va_get C.x C.b C.ts in_M C.own hK h1 0 rfl rfl 21 (by decide) (C.ts _ hl) (fun _ h => h) rfl d (k H locs ls h1 h2 h3 h4)
theorem put_WM_0_lostBehind (C : Cx p s m args c cc nL own) (hK : va_K D classes (tys cs) s) {idx : Nat} {v : Int32} (hl : Cond.fieldLink own idx "TentPegsModel" "lostBehind" "I" ∈ TT) (d : decode cc pc = .ok (.putfield idx, 3)) (hp : pc + 3 = pc1) (k : G p l e R s m args below meth c Q D A nL (WM ad cs (stI μ 0 21 v)) pc1 L rest) : G p l e R s m args below meth c Q D A nL (WM ad cs μ) pc L (.int v :: .ref (ad 0) :: rest) := by
  subst hp
  intro H locs ls h1 h2 h3 h4
  exact va_put C.x C.b C.ts in_M ty_M ok_M nm_M C.own hK h1 h2 h3 0 rfl rfl 21 (by decide) (C.ts _ hl) (fun _ h => h) rfl (ok_M 21 (by decide)) rfl rfl (Nat.le_of_ble_eq_true rfl) d (fun H1 locs1 g1 g2 g3 => k H1 locs1 ls g1 g2 g3 h4)
end ROWS
