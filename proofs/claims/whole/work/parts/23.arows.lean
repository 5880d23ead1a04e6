/-! Own layer (3): the judgement GA (as G, with what was made so far) for constructors and the law. Printed by wip/whole/arows.py. -/
def GA (p : Program) (l : Launch) (e : Env) (R : Room) (s : State) (m : MethodId) (args : Array Value) (below : List Frame) (meth : Method) (c : Code) (Q : State → Prop) (D : va_G) (A : Nat → Prop) (nL : Nat) (kc ns : Nat) (ws : va_W) (pc : Nat) (L : List (Nat × Value)) (st : List Value) : Prop :=
  ∀ (H : Heap) (locs : List Loc) (ls : Array Slot), va_P D classes ws H → va_D A ws → va_S A s.heap H locs → lv_has ls nL L → W p l e R s m args below meth c H locs kc ns Q (F0 m pc ls st)
section AROWS
variable {p : Program} {l : Launch} {e : Env} {R : Room} {s : State} {m : MethodId} {args : Array Value} {below : List Frame} {meth : Method} {c : Code} {Q : State → Prop} {D : va_G} {A : Nat → Prop} {nL kc ns : Nat} {ws : va_W} {pc pc1 : Nat} {L L1 : List (Nat × Value)} {st rest : List Value} {cc : ByteArray} {own : String}
theorem a_iconst (C : Cx p s m args c cc nL own) {n : Int} {v : Int32} (d : decode cc pc = .ok (.iconst n, 1)) (hp : pc + 1 = pc1) (hv : Int32.ofInt n = v) (k : GA p l e R s m args below meth c Q D A nL kc ns ws pc1 L (.int v :: rest)) : GA p l e R s m args below meth c Q D A nL kc ns ws pc L (rest) := by
  subst hp
  intro H locs ls h1 h2 h3 h4
  exact lv_iconst C.x C.b d hv (k H locs ls h1 h2 h3 h4)
theorem a_bipush (C : Cx p s m args c cc nL own) {n : Int} {v : Int32} (d : decode cc pc = .ok (.bipush n, 2)) (hp : pc + 2 = pc1) (hv : (Int8.ofInt n).toInt32 = v) (k : GA p l e R s m args below meth c Q D A nL kc ns ws pc1 L (.int v :: rest)) : GA p l e R s m args below meth c Q D A nL kc ns ws pc L (rest) := by
  subst hp
  intro H locs ls h1 h2 h3 h4
  exact lv_bipush C.x C.b d hv (k H locs ls h1 h2 h3 h4)
theorem a_sipush (C : Cx p s m args c cc nL own) {n : Int} {v : Int32} (d : decode cc pc = .ok (.sipush n, 3)) (hp : pc + 3 = pc1) (hv : (Int16.ofInt n).toInt32 = v) (k : GA p l e R s m args below meth c Q D A nL kc ns ws pc1 L (.int v :: rest)) : GA p l e R s m args below meth c Q D A nL kc ns ws pc L (rest) := by
  subst hp
  intro H locs ls h1 h2 h3 h4
  exact lv_sipush C.x C.b d hv (k H locs ls h1 h2 h3 h4)
theorem a_lconst (C : Cx p s m args c cc nL own) {n : Fin 2} {v : Int64} (d : decode cc pc = .ok (.lconst n, 1)) (hp : pc + 1 = pc1) (hv : Int64.ofNat (n : Nat) = v) (k : GA p l e R s m args below meth c Q D A nL kc ns ws pc1 L (.long v :: rest)) : GA p l e R s m args below meth c Q D A nL kc ns ws pc L (rest) := by
  subst hp
  intro H locs ls h1 h2 h3 h4
  exact lv_lconst C.x C.b d hv (k H locs ls h1 h2 h3 h4)
theorem a_iload_n (C : Cx p s m args c cc nL own) {k1 : Fin 4} {i : Nat} {x : Int32} (d : decode cc pc = .ok (.iload_n k1, 1)) (hp : pc + 1 = pc1) (hi : (k1 : Nat) = i) (kk : Nat) (hl : L[kk]? = some (i, .int x)) (k : GA p l e R s m args below meth c Q D A nL kc ns ws pc1 L (.int x :: rest)) : GA p l e R s m args below meth c Q D A nL kc ns ws pc L (rest) := by
  subst hp
  intro H locs ls h1 h2 h3 h4
  exact lv_iload_n C.x C.b d hi (lv_at h4 kk hl) (k H locs ls h1 h2 h3 h4)
theorem a_iload (C : Cx p s m args c cc nL own) {i : Nat} {x : Int32} (d : decode cc pc = .ok (.iload i, 2)) (hp : pc + 2 = pc1) (kk : Nat) (hl : L[kk]? = some (i, .int x)) (k : GA p l e R s m args below meth c Q D A nL kc ns ws pc1 L (.int x :: rest)) : GA p l e R s m args below meth c Q D A nL kc ns ws pc L (rest) := by
  subst hp
  intro H locs ls h1 h2 h3 h4
  exact lv_iload C.x C.b d (lv_at h4 kk hl) (k H locs ls h1 h2 h3 h4)
theorem a_aload_n (C : Cx p s m args c cc nL own) {k1 : Fin 4} {i : Nat} {x : Nat} (d : decode cc pc = .ok (.aload_n k1, 1)) (hp : pc + 1 = pc1) (hi : (k1 : Nat) = i) (kk : Nat) (hl : L[kk]? = some (i, .ref x)) (k : GA p l e R s m args below meth c Q D A nL kc ns ws pc1 L (.ref x :: rest)) : GA p l e R s m args below meth c Q D A nL kc ns ws pc L (rest) := by
  subst hp
  intro H locs ls h1 h2 h3 h4
  exact lv_aload_n C.x C.b d hi (lv_at h4 kk hl) (k H locs ls h1 h2 h3 h4)
theorem a_istore_n (C : Cx p s m args c cc nL own) {k1 : Fin 4} {i : Nat} {x : Int32} (d : decode cc pc = .ok (.istore_n k1, 1)) (hp : pc + 1 = pc1) (hi : (k1 : Nat) = i) (hn : i < nL) (hl : (i, Value.int x) :: L.filter (fun q => !(q.1 == i) && !(q.1 + 1 == i && q.2.category == 2)) = L1) (k : GA p l e R s m args below meth c Q D A nL kc ns ws pc1 L1 rest) : GA p l e R s m args below meth c Q D A nL kc ns ws pc L (.int x :: rest) := by
  subst hp
  intro H locs ls h1 h2 h3 h4
  exact lv_istore_n C.x C.b d hi h4 hn hl (fun ls1 h5 => k H locs ls1 h1 h2 h3 h5)
theorem a_astore_n (C : Cx p s m args c cc nL own) {k1 : Fin 4} {i : Nat} {x : Nat} (d : decode cc pc = .ok (.astore_n k1, 1)) (hp : pc + 1 = pc1) (hi : (k1 : Nat) = i) (hn : i < nL) (hl : (i, Value.ref x) :: L.filter (fun q => !(q.1 == i) && !(q.1 + 1 == i && q.2.category == 2)) = L1) (k : GA p l e R s m args below meth c Q D A nL kc ns ws pc1 L1 rest) : GA p l e R s m args below meth c Q D A nL kc ns ws pc L (.ref x :: rest) := by
  subst hp
  intro H locs ls h1 h2 h3 h4
  exact lv_astore_n C.x C.b d hi h4 hn hl (fun ls1 h5 => k H locs ls1 h1 h2 h3 h5)
theorem a_iinc (C : Cx p s m args c cc nL own) {i : Nat} {n : Int} {x v : Int32} (d : decode cc pc = .ok (.iinc i n, 3)) (hp : pc + 3 = pc1) (kk : Nat) (hk : L[kk]? = some (i, .int x)) (hv : x + Int32.ofInt n = v) (hn : i < nL) (hl : (i, Value.int v) :: L.filter (fun q => !(q.1 == i) && !(q.1 + 1 == i && q.2.category == 2)) = L1) (k : GA p l e R s m args below meth c Q D A nL kc ns ws pc1 L1 rest) : GA p l e R s m args below meth c Q D A nL kc ns ws pc L (rest) := by
  subst hp
  intro H locs ls h1 h2 h3 h4
  exact lv_iinc C.x C.b d h4 hk hv hn hl (fun ls1 h5 => k H locs ls1 h1 h2 h3 h5)
theorem a_iadd (C : Cx p s m args c cc nL own) {x y : Int32} (d : decode cc pc = .ok (.iadd, 1)) (hp : pc + 1 = pc1)  (k : GA p l e R s m args below meth c Q D A nL kc ns ws pc1 L (.int (x + y) :: rest)) : GA p l e R s m args below meth c Q D A nL kc ns ws pc L (.int y :: .int x :: rest) := by
  subst hp
  intro H locs ls h1 h2 h3 h4
  exact lv_iadd C.x C.b d (k H locs ls h1 h2 h3 h4)
theorem a_isub (C : Cx p s m args c cc nL own) {x y : Int32} (d : decode cc pc = .ok (.isub, 1)) (hp : pc + 1 = pc1)  (k : GA p l e R s m args below meth c Q D A nL kc ns ws pc1 L (.int (x - y) :: rest)) : GA p l e R s m args below meth c Q D A nL kc ns ws pc L (.int y :: .int x :: rest) := by
  subst hp
  intro H locs ls h1 h2 h3 h4
  exact lv_isub C.x C.b d (k H locs ls h1 h2 h3 h4)
theorem a_iand (C : Cx p s m args c cc nL own) {x y : Int32} (d : decode cc pc = .ok (.iand, 1)) (hp : pc + 1 = pc1)  (k : GA p l e R s m args below meth c Q D A nL kc ns ws pc1 L (.int (x &&& y) :: rest)) : GA p l e R s m args below meth c Q D A nL kc ns ws pc L (.int y :: .int x :: rest) := by
  subst hp
  intro H locs ls h1 h2 h3 h4
  exact lv_iand C.x C.b d (k H locs ls h1 h2 h3 h4)
theorem a_lcmp (C : Cx p s m args c cc nL own) {x y : Int64} (d : decode cc pc = .ok (.lcmp, 1)) (hp : pc + 1 = pc1)  (k : GA p l e R s m args below meth c Q D A nL kc ns ws pc1 L (.int (lg_cmp x y) :: rest)) : GA p l e R s m args below meth c Q D A nL kc ns ws pc L (.long y :: .long x :: rest) := by
  subst hp
  intro H locs ls h1 h2 h3 h4
  exact W.lcmp C.x C.b d (k H locs ls h1 h2 h3 h4)
theorem a_dup (C : Cx p s m args c cc nL own) {va : Value} (d : decode cc pc = .ok (.dup, 1)) (hp : pc + 1 = pc1) (hv : va.category = 1) (k : GA p l e R s m args below meth c Q D A nL kc ns ws pc1 L (va :: va :: rest)) : GA p l e R s m args below meth c Q D A nL kc ns ws pc L (va :: rest) := by
  subst hp
  intro H locs ls h1 h2 h3 h4
  exact lv_dup C.x C.b d hv (k H locs ls h1 h2 h3 h4)
theorem a_if_eq (C : Cx p s m args c cc nL own) {x : Int32} {off : Int} (tgt : Nat) (d : decode cc pc = .ok (.ifCond .eq off, 3)) (hp : pc + 3 = pc1) (ht : (pc : Int) + off = (tgt : Int)) (kt : x = 0 → GA p l e R s m args below meth c Q D A nL kc ns ws tgt L rest) (kf : ¬ x = 0 → GA p l e R s m args below meth c Q D A nL kc ns ws pc1 L rest) : GA p l e R s m args below meth c Q D A nL kc ns ws pc L (.int x :: rest) := by
  subst hp
  intro H locs ls h1 h2 h3 h4
  exact lv_if_eq C.x C.b d ht (fun q => kt q H locs ls h1 h2 h3 h4) (fun q => kf q H locs ls h1 h2 h3 h4)
theorem a_icmp_eq (C : Cx p s m args c cc nL own) {x y : Int32} {off : Int} (tgt : Nat) (d : decode cc pc = .ok (.if_icmp .eq off, 3)) (hp : pc + 3 = pc1) (ht : (pc : Int) + off = (tgt : Int)) (kt : x = y → GA p l e R s m args below meth c Q D A nL kc ns ws tgt L rest) (kf : ¬ x = y → GA p l e R s m args below meth c Q D A nL kc ns ws pc1 L rest) : GA p l e R s m args below meth c Q D A nL kc ns ws pc L (.int y :: .int x :: rest) := by
  subst hp
  intro H locs ls h1 h2 h3 h4
  exact lv_icmp_eq C.x C.b d ht (fun q => kt q H locs ls h1 h2 h3 h4) (fun q => kf q H locs ls h1 h2 h3 h4)
theorem a_if_ne (C : Cx p s m args c cc nL own) {x : Int32} {off : Int} (tgt : Nat) (d : decode cc pc = .ok (.ifCond .ne off, 3)) (hp : pc + 3 = pc1) (ht : (pc : Int) + off = (tgt : Int)) (kt : ¬ x = 0 → GA p l e R s m args below meth c Q D A nL kc ns ws tgt L rest) (kf : x = 0 → GA p l e R s m args below meth c Q D A nL kc ns ws pc1 L rest) : GA p l e R s m args below meth c Q D A nL kc ns ws pc L (.int x :: rest) := by
  subst hp
  intro H locs ls h1 h2 h3 h4
  exact lv_if_ne C.x C.b d ht (fun q => kt q H locs ls h1 h2 h3 h4) (fun q => kf q H locs ls h1 h2 h3 h4)
theorem a_icmp_ne (C : Cx p s m args c cc nL own) {x y : Int32} {off : Int} (tgt : Nat) (d : decode cc pc = .ok (.if_icmp .ne off, 3)) (hp : pc + 3 = pc1) (ht : (pc : Int) + off = (tgt : Int)) (kt : ¬ x = y → GA p l e R s m args below meth c Q D A nL kc ns ws tgt L rest) (kf : x = y → GA p l e R s m args below meth c Q D A nL kc ns ws pc1 L rest) : GA p l e R s m args below meth c Q D A nL kc ns ws pc L (.int y :: .int x :: rest) := by
  subst hp
  intro H locs ls h1 h2 h3 h4
  exact lv_icmp_ne C.x C.b d ht (fun q => kt q H locs ls h1 h2 h3 h4) (fun q => kf q H locs ls h1 h2 h3 h4)
theorem a_icmp_lt (C : Cx p s m args c cc nL own) {x y : Int32} {off : Int} (tgt : Nat) (d : decode cc pc = .ok (.if_icmp .lt off, 3)) (hp : pc + 3 = pc1) (ht : (pc : Int) + off = (tgt : Int)) (kt : x < y → GA p l e R s m args below meth c Q D A nL kc ns ws tgt L rest) (kf : ¬ x < y → GA p l e R s m args below meth c Q D A nL kc ns ws pc1 L rest) : GA p l e R s m args below meth c Q D A nL kc ns ws pc L (.int y :: .int x :: rest) := by
  subst hp
  intro H locs ls h1 h2 h3 h4
  exact lv_icmp_lt C.x C.b d ht (fun q => kt q H locs ls h1 h2 h3 h4) (fun q => kf q H locs ls h1 h2 h3 h4)
theorem a_icmp_ge (C : Cx p s m args c cc nL own) {x y : Int32} {off : Int} (tgt : Nat) (d : decode cc pc = .ok (.if_icmp .ge off, 3)) (hp : pc + 3 = pc1) (ht : (pc : Int) + off = (tgt : Int)) (kt : y ≤ x → GA p l e R s m args below meth c Q D A nL kc ns ws tgt L rest) (kf : ¬ y ≤ x → GA p l e R s m args below meth c Q D A nL kc ns ws pc1 L rest) : GA p l e R s m args below meth c Q D A nL kc ns ws pc L (.int y :: .int x :: rest) := by
  subst hp
  intro H locs ls h1 h2 h3 h4
  exact lv_icmp_ge C.x C.b d ht (fun q => kt q H locs ls h1 h2 h3 h4) (fun q => kf q H locs ls h1 h2 h3 h4)
theorem a_icmp_gt (C : Cx p s m args c cc nL own) {x y : Int32} {off : Int} (tgt : Nat) (d : decode cc pc = .ok (.if_icmp .gt off, 3)) (hp : pc + 3 = pc1) (ht : (pc : Int) + off = (tgt : Int)) (kt : y < x → GA p l e R s m args below meth c Q D A nL kc ns ws tgt L rest) (kf : ¬ y < x → GA p l e R s m args below meth c Q D A nL kc ns ws pc1 L rest) : GA p l e R s m args below meth c Q D A nL kc ns ws pc L (.int y :: .int x :: rest) := by
  subst hp
  intro H locs ls h1 h2 h3 h4
  exact lv_icmp_gt C.x C.b d ht (fun q => kt q H locs ls h1 h2 h3 h4) (fun q => kf q H locs ls h1 h2 h3 h4)
theorem a_icmp_le (C : Cx p s m args c cc nL own) {x y : Int32} {off : Int} (tgt : Nat) (d : decode cc pc = .ok (.if_icmp .le off, 3)) (hp : pc + 3 = pc1) (ht : (pc : Int) + off = (tgt : Int)) (kt : x ≤ y → GA p l e R s m args below meth c Q D A nL kc ns ws tgt L rest) (kf : ¬ x ≤ y → GA p l e R s m args below meth c Q D A nL kc ns ws pc1 L rest) : GA p l e R s m args below meth c Q D A nL kc ns ws pc L (.int y :: .int x :: rest) := by
  subst hp
  intro H locs ls h1 h2 h3 h4
  exact lv_icmp_le C.x C.b d ht (fun q => kt q H locs ls h1 h2 h3 h4) (fun q => kf q H locs ls h1 h2 h3 h4)
theorem a_goto (C : Cx p s m args c cc nL own) {off : Int} (tgt : Nat) (d : decode cc pc = .ok (.goto off, 3)) (ht : (pc : Int) + off = (tgt : Int)) (k : GA p l e R s m args below meth c Q D A nL kc ns ws tgt L st) : GA p l e R s m args below meth c Q D A nL kc ns ws pc L st := by
  intro H locs ls h1 h2 h3 h4
  exact lv_goto C.x C.b d ht (k H locs ls h1 h2 h3 h4)
theorem a_tblIn (C : Cx p s m args c cc nL own) {dflt lo hi : Int} {offs : Array Int} {len : Nat} {x : Int32} {off : Int} (tgt : Nat) (d : decode cc pc = .ok (.tableswitch dflt lo hi offs, len)) (z : Int) (hz : x.toInt = z) (g1 : ¬ z < lo) (g2 : ¬ hi < z) (ho : offs[(z - lo).toNat]? = some off) (ht : (pc : Int) + off = (tgt : Int)) (k : GA p l e R s m args below meth c Q D A nL kc ns ws tgt L rest) : GA p l e R s m args below meth c Q D A nL kc ns ws pc L (.int x :: rest) := by
  subst hz
  intro H locs ls h1 h2 h3 h4
  exact lv_tableIn C.x C.b d g1 g2 ho ht (k H locs ls h1 h2 h3 h4)
theorem a_tblOut (C : Cx p s m args c cc nL own) {dflt lo hi : Int} {offs : Array Int} {len : Nat} {x : Int32} (tgt : Nat) (d : decode cc pc = .ok (.tableswitch dflt lo hi offs, len)) (g1 : x.toInt < lo ∨ hi < x.toInt) (ht : (pc : Int) + dflt = (tgt : Int)) (k : GA p l e R s m args below meth c Q D A nL kc ns ws tgt L rest) : GA p l e R s m args below meth c Q D A nL kc ns ws pc L (.int x :: rest) := by
  intro H locs ls h1 h2 h3 h4
  exact lv_tableOut C.x C.b d g1 ht (k H locs ls h1 h2 h3 h4)
theorem a_sub (ks : List Nat) (hl : lv_pick L ks = L1) (k : GA p l e R s m args below meth c Q D A nL kc ns ws pc L1 st) : GA p l e R s m args below meth c Q D A nL kc ns ws pc L st := fun H locs ls h1 h2 h3 h4 => k H locs ls h1 h2 h3 (lv_sub h4 ks hl)
theorem a_ws {ws1 : va_W} (hw : ws = ws1) (k : GA p l e R s m args below meth c Q D A nL kc ns ws1 pc L st) : GA p l e R s m args below meth c Q D A nL kc ns ws pc L st := hw ▸ k
variable {cs : Nat → ClassId}
theorem a_get (C : Cx p s m args c cc nL own) (hK : va_K D classes (tys cs) s) {Cl : String} {T : u_T} {N ci idx a : Nat} (hin : ∀ w ∈ u_ws Cl T N, w ∈ TT) (q0 : Nat) {fs : List Value} (he : ws[q0]? = some (a, .inr (ci, fs))) (hc : classes[ci]? = some (Cl, T, N)) (k0 : Nat) (hk : k0 < N) (hl : Cond.fieldLink own idx (T k0).1 (T k0).2.1 (T k0).2.2.1 ∈ TT) {v : Value} (hv : fs[k0]? = some v) (d : decode cc pc = .ok (.getfield idx, 3)) (hp : pc + 3 = pc1) (k : GA p l e R s m args below meth c Q D A nL kc ns ws pc1 L (v :: rest)) : GA p l e R s m args below meth c Q D A nL kc ns ws pc L (.ref a :: rest) := by
  subst hp
  intro H locs ls h1 h2 h3 h4
  exact va_get C.x C.b C.ts hin C.own hK h1 q0 he hc k0 hk (C.ts _ hl) (fun _ h => h) hv d (k H locs ls h1 h2 h3 h4)
theorem a_put (C : Cx p s m args c cc nL own) (hK : va_K D classes (tys cs) s) {Cl : String} {T : u_T} {N ci idx a : Nat} (hin : ∀ w ∈ u_ws Cl T N, w ∈ TT) (ty0 : Nat → FieldType) (hty : ∀ k, k < N → parseFieldDescriptor (T k).2.2.1 = some (ty0 k)) (hnm : ∀ a, a < N → ∀ b, b < N → a ≠ b → (T a).2.1 ≠ (T b).2.1) (q0 : Nat) {fs : List Value} (he : ws[q0]? = some (a, .inr (ci, fs))) (hc : classes[ci]? = some (Cl, T, N)) (k0 : Nat) (hk : k0 < N) (hl : Cond.fieldLink own idx (T k0).1 (T k0).2.1 (T k0).2.2.1 ∈ TT) (hfin : (T k0).2.2.2 = false) {v : Value} (hn : narrow (ty0 k0) v = v) (hfit : fits (ty0 k0) v = true) (hlen : k0 < fs.length) {ws1 : va_W} (hw : ws.set q0 (a, .inr (ci, fs.set k0 v)) = ws1) (d : decode cc pc = .ok (.putfield idx, 3)) (hp : pc + 3 = pc1) (k : GA p l e R s m args below meth c Q D A nL kc ns ws1 pc1 L rest) : GA p l e R s m args below meth c Q D A nL kc ns ws pc L (v :: .ref a :: rest) := by
  subst hp; subst hw
  intro H locs ls h1 h2 h3 h4
  exact va_put C.x C.b C.ts hin ty0 hty hnm C.own hK h1 h2 h3 q0 he hc k0 hk (C.ts _ hl) (fun _ h => h) hfin (hty k0 hk) hn hfit hlen d (fun H1 locs1 g1 g2 g3 => k H1 locs1 ls g1 g2 g3 h4)
theorem a_putF (C : Cx p s m args c cc nL own) (hK : va_K D classes (tys cs) s) (hin2 : meth.name = "<init>") {T : u_T} {N ci idx a : Nat} (hin : ∀ w ∈ u_ws own T N, w ∈ TT) (ty0 : Nat → FieldType) (hty : ∀ k, k < N → parseFieldDescriptor (T k).2.2.1 = some (ty0 k)) (hnm : ∀ a, a < N → ∀ b, b < N → a ≠ b → (T a).2.1 ≠ (T b).2.1) (q0 : Nat) {fs : List Value} (he : ws[q0]? = some (a, .inr (ci, fs))) (hc : classes[ci]? = some (own, T, N)) (k0 : Nat) (hk : k0 < N) (hl : Cond.fieldLink own idx (T k0).1 (T k0).2.1 (T k0).2.2.1 ∈ TT) (hfin : (T k0).2.2.2 = true) (hdecl : (T k0).1 = own) {v : Value} (hn : narrow (ty0 k0) v = v) (hfit : fits (ty0 k0) v = true) (hlen : k0 < fs.length) {ws1 : va_W} (hw : ws.set q0 (a, .inr (ci, fs.set k0 v)) = ws1) (d : decode cc pc = .ok (.putfield idx, 3)) (hp : pc + 3 = pc1) (k : GA p l e R s m args below meth c Q D A nL kc ns ws1 pc1 L rest) : GA p l e R s m args below meth c Q D A nL kc ns ws pc L (v :: .ref a :: rest) := by
  subst hp; subst hw
  intro H locs ls h1 h2 h3 h4
  exact va_putF C.x C.b C.ts hin ty0 hty hnm C.own hK h1 h2 h3 q0 he hc k0 hk (C.ts _ hl) (fun _ h => h) hfin hin2 hdecl (hty k0 hk) hn hfit hlen d (fun H1 locs1 g1 g2 g3 => k H1 locs1 ls g1 g2 g3 h4)
theorem cls_eq {U : State} {cA cB : ClassId} {n : String} (h1 : U.vm.findClass n = some cA) (h2 : U.vm.findClass n = some cB) : cA = cB := Option.some.inj (h1.symm.trans h2)
theorem a_newa (C : Cx p s m args c cc nL own) (hK : va_K D classes (tys cs) s) {atype : ArrayType} (t0 : Nat) {cA : ClassId} (ht : (tys cs)[t0]? = some (cA, newarray.typeOf atype)) (hpr : ∀ n, newarray.typeOf atype ≠ .object n) (harr : Cond.arrayClass (newarray.typeOf atype) ∈ TT) (hA : ∀ q, s.heap.size ≤ q → A q) {n : Int32} (N : Nat) (ha : vp_cell cA (N, .inl (fun _ => 0)) = arrV cA N (fun _ => defaultValue (newarray.typeOf atype))) (hn : ¬ n < 0) (hN : n.toNatClampNeg = N) (hbytes : N * componentBytes (newarray.typeOf atype) ≤ 536870912) (hc : kc + 1 ≤ R.cells) (hs : ns + N ≤ R.slots) (d : decode cc pc = .ok (.newarray atype, 2)) (hp : pc + 2 = pc1)
    (k : ∀ q : Nat, GA p l e R s m args below meth c Q D A nL (kc + 1) (ns + N) (ws ++ [(q, .inl (cA, N, .inl (fun _ => 0)))]) pc1 L (.ref q :: rest)) : GA p l e R s m args below meth c Q D A nL kc ns ws pc L (.int n :: rest) := by
  subst hp
  intro H locs ls h1 h2 h3 h4
  refine va_newaK C.x C.b (C.ts _ harr) rfl d rfl hn hN hbytes hc hs rfl fun H1 cB e1 z1 o1 hAr hNm => ?_
  have hRA := (hK.2 t0 _ ht).2
  have hcl : cB = cA := by
    have h9 : s.vm.findClass ("[" ++ (newarray.typeOf atype).toString) = some cA := by
      cases hq : newarray.typeOf atype with
      | object nn => exact absurd hq (hpr nn)
      | _ => rw [hq] at hRA; exact hRA
    exact cls_eq hNm h9
  subst hcl
  have hk : ∀ (i : Nat) (x : Nat × va_E), ws[i]? = some x → H1[x.1]? = H[x.1]? := fun i x hx => o1 x.1 ((h1 i x hx).lt)
  refine k H.size H1 locs ls ((h1.kept hk).app (fun i x hx => ?_)) (h2.push h1 rfl (hA _ h3.1)) ⟨Nat.le_trans h3.1 (by omega), fun x g1 g2 => (o1 x (Nat.lt_of_lt_of_le g1 h3.1)).trans (h3.2.1 x g1 g2), h3.2.2⟩ h4
  have hz : i < 1 := (List.getElem?_eq_some_iff.mp hx).1
  rw [show i = 0 by omega] at hx
  cases hx
  show H1[H.size]? = some (vp_cell _ _)
  rw [ha]
  exact e1
theorem a_new (C : Cx p s m args c cc nL own) (hK : va_K D classes (tys cs) s) {Cl : String} {T : u_T} {N ci idx : Nat} (hin : ∀ w ∈ u_ws Cl T N, w ∈ TT) (ty : Nat → FieldType) (hty : ∀ k, k < N → parseFieldDescriptor (T k).2.2.1 = some (ty k)) (hcl : Cond.classLink own idx Cl ∈ TT) (hinst : Cond.instantiable Cl N ∈ TT) (hini : Cond.initialized Cl ∈ TT) (hA : ∀ q, s.heap.size ≤ q → A q) (hc : classes[ci]? = some (Cl, T, N)) {fs : List Value} (hfs : ∀ j, j < N → defaultValue (ty j) = vp_V fs j) (hcells : kc + 1 ≤ R.cells) (hslots : ns + N ≤ R.slots) (d : decode cc pc = .ok (.new idx, 3)) (hp : pc + 3 = pc1)
    (k : ∀ q : Nat, GA p l e R s m args below meth c Q D A nL (kc + 1) (ns + N) (ws ++ [(q, .inr (ci, fs))]) pc1 L (.ref q :: rest)) : GA p l e R s m args below meth c Q D A nL kc ns ws pc L rest := by
  subst hp
  intro H locs ls h1 h2 h3 h4
  exact va_new C.x C.b C.ts hin ty hty C.own (C.ts _ hcl) (C.ts _ hinst) (C.ts _ hini) hK h1 h2 h3 hA hc hfs hcells hslots d (fun q H1 g1 g2 g3 => k q H1 locs ls g1 g2 g3 h4)
theorem a_newq (C : Cx p s m args c cc nL own) (hK : va_K D classes (tys cs) s) {Cl : String} {idx : Nat} (t0 : Nat) {cA : ClassId} (ht : (tys cs)[t0]? = some (cA, .object Cl)) (hcl : Cond.classLink own idx Cl ∈ TT) (hover : va_AO Cl s) (hA : ∀ q, s.heap.size ≤ q → A q) {n : Int32} (N : Nat) (hn : ¬ n < 0) (hN : n.toNatClampNeg = N) (hbytes : N * 4 ≤ 536870912) (hcells : kc + 1 ≤ R.cells) (hslots : ns + N ≤ R.slots) (d : decode cc pc = .ok (.anewarray idx, 3)) (hp : pc + 3 = pc1)
    (k : ∀ q : Nat, GA p l e R s m args below meth c Q D A nL (kc + 1) (ns + N) (ws ++ [(q, .inl (cA, N, .inr (.inr (.inr (.inr (fun _ => none))))))]) pc1 L (.ref q :: rest)) : GA p l e R s m args below meth c Q D A nL kc ns ws pc L (.int n :: rest) := by
  subst hp
  intro H locs ls h1 h2 h3 h4
  refine va_newq C.x C.b C.own (C.ts _ hcl) hover hK h1 h2 h3 hA hn hN hbytes hcells hslots d (fun q cB H1 gK g1 g2 g3 => ?_)
  have e1 : ((tys cs) ++ [(cB, FieldType.object Cl)])[4]? = some (cB, .object Cl) := rfl
  obtain ⟨kA, comp, -, -, -, b4⟩ := (gK.2 4 _ e1).2
  obtain ⟨kB, comp2, -, -, -, b5⟩ := (hK.2 t0 _ ht).2
  have e2 : cB = cA := cls_eq b4 b5
  subst e2
  exact k q H1 locs ls g1 g2 g3 h4
theorem a_astq (C : Cx p s m args c cc nL own) (hK : va_K D classes (tys cs) s) (q0 t0 qk ci : Nat) {r : vw_C} {n v a : Nat} {cA : ClassId} {vs : List Value} {f : Nat → Option Nat} (ha : ws[q0]? = some (a, .inl (cA, n, .inr (.inr (.inr (.inr f)))))) (ht : (tys cs)[t0]? = some (cA, .object r.1)) (hv : ws[qk]? = some (v, .inr (ci, vs))) (hc : classes[ci]? = some r) {i : Int32} (hin : inb i n = true) {ws1 : va_W} (hw : ws.set q0 (a, .inl (cA, n, .inr (.inr (.inr (.inr (va_up f i.toNatClampNeg (some v))))))) = ws1) (d : decode cc pc = .ok (.aastore, 1)) (hp : pc + 1 = pc1) (k : GA p l e R s m args below meth c Q D A nL kc ns ws1 pc1 L rest) : GA p l e R s m args below meth c Q D A nL kc ns ws pc L (.ref v :: .int i :: .ref a :: rest) := by
  subst hp; subst hw
  intro H locs ls h1 h2 h3 h4
  exact va_astq C.x C.b hK h1 h2 h3 q0 t0 qk ci ha ht hv hc (inb_in hin) d (fun H1 locs1 g1 g2 g3 => k H1 locs1 ls g1 g2 g3 h4)
theorem a_objInit (C : Cx p s m args c cc nL own) {idx a : Nat} (hl : Cond.methodLink own idx Lib.objectInit ∈ TT) (hi : Cond.instanceMethod Lib.objectInit ∈ TT) (hc : Cond.code Lib.objectInit ⟨#[0xb1]⟩ 1 none ∈ TT) (hf : 1 ≤ R.frames) (hL : (rest.map fun v => v.category).sum + 12 ≤ R.locals) (d : decode cc pc = .ok (.invokespecial idx, 3)) (hp : pc + 3 = pc1) (k : GA p l e R s m args below meth c Q D A nL kc ns ws pc1 L rest) : GA p l e R s m args below meth c Q D A nL kc ns ws pc L (.ref a :: rest) := by
  subst hp
  intro H locs ls h1 h2 h3 h4
  refine W.objInit C.x C.b C.own (C.ts _ hl) (C.ts _ hi) (C.ts _ hc) rfl (by rw [C.ml]; exact h4.1) rfl d hf (by show 2 * 0 + _ + 12 ≤ _; omega) ?_
  exact W.eq (g2 := F0 m (pc + 3) ls rest) rfl (k H locs ls h1 h2 h3 h4)
theorem a_widen {k1 n1 : Nat} (h1 : kc ≤ k1) (h2 : ns ≤ n1) (k : GA p l e R s m args below meth c Q D A nL k1 n1 ws pc L st) : GA p l e R s m args below meth c Q D A nL kc ns ws pc L st := fun H locs ls g1 g2 g3 g4 => W.widen h1 h2 (k H locs ls g1 g2 g3 g4)
/-- a constructor's start and end: one cell (b, e0) to be filled, others to be made -/
def PcC (D : va_G) (cs : Nat → ClassId) (sz b : Nat) (e0 : va_E) (X : State → Prop) : State → Prop := fun U => U.heap.size = sz ∧ va_P D classes [(b, e0)] U.heap ∧ va_K D classes (tys cs) U ∧ Nst U ∧ X U
def QcC {S : Type} (D : va_G) (w1 : S → va_W) (sz b : Nat) (e0 : va_E) : Array Value → State → Outcome → State → Prop := va_Qv (fun (_ : S) => True) (fun u t => va_P D classes (w1 u) t.heap ∧ va_D (va_A [(b, e0)] sz) (w1 u)) (va_A [(b, e0)] sz)
theorem a_vretC {S : Type} {w1 : S → va_W} {sz b : Nat} {e0 : va_E} (u : S) (C : Cx p s m args c cc nL own) (hr : meth.sig.returnType = none) (hlk : meth.locks = false) (d : decode cc pc = .ok (.return_, 1)) (hw : ws = w1 u) : GA p l e R s m args below meth c (MQ below (QcC D w1 sz b e0) args s kc ns (va_A [(b, e0)] sz)) D (va_A [(b, e0)] sz) nL kc ns ws pc L [] := by
  subst hw
  intro H locs ls h1 h2 h3 h4
  exact W.vret C.x C.b hr (fun t ht _ => ⟨⟨u, rfl, trivial, by rw [ht]; exact h1, h2⟩, h3.F ht⟩) h3.2.2 d hlk
theorem met_ofC {S : Type} {w1 : S → va_W} {l : Launch} {y : MethodName} {own : String} {cc : ByteArray} {maxL : Nat} {rm : Room} {D : va_G} {cs : Nat → ClassId} {sz b mc ms : Nat} {e0 : va_E} {X : State → Prop} {av : List Value} (hy : y.cls = own) (hyn : y.name = "<init>") (hpl : plainName own = true) (hsz : (lg_sl av).length ≤ maxL)
    (body : ∀ p e s m below meth c, Cx p s m av.toArray c cc maxL own → va_K D classes (tys cs) s → X s → s.heap.size = sz → meth.name = "<init>" → meth.sig.returnType = none → meth.locks = false → GA p l e rm s m av.toArray below meth c (MQ below (QcC D w1 sz b e0) av.toArray s mc ms (va_A [(b, e0)] sz)) D (va_A [(b, e0)] sz) maxL 0 0 [(b, e0)] 0 (lv_args 0 av) []) : Met l y (.code y cc maxL none :: TT) rm (va_Pc av (PcC D cs sz b e0 X)) (QcC D w1 sz b e0) mc ms (va_A [(b, e0)] sz) := by
  refine Met.ofW (cc := cc) (maxL := maxL) (ret := none) (by rw [hy]; exact hpl) rfl ?_
  intro p e s m args below meth c s₁ B hml hv
  obtain ⟨rfl, hsz0, hP, hK, hN, hX⟩ := hv
  have hts := atoms_spec (ws := .code y cc maxL none :: TT) B.pre
  have hown : s.vm.findClass own = some m.cls := by rw [← hy]; exact findClass_of_methodNamed B.named
  have hl := lv_entry av (n := maxL) hsz
  have hin : meth.name = "<init>" := (name_of_methodNamed B.named B.method).1.trans hyn
  rw [lg_entry_eq]
  refine body p e s m below meth c ⟨B.exec, B.bytes, hml, hown, fun w h => hts w (List.mem_cons_of_mem _ h), hN⟩ hK hX hsz0 hin B.returns B.notSynchronized s.heap [] _ hP ?_ va_S.rf hl
  refine ⟨fun i j x y hx hy _ => ?_, fun i x hx => va_A.in hx⟩
  have h1 : i < 1 := (List.getElem?_eq_some_iff.mp hx).1
  have h2 : j < 1 := (List.getElem?_eq_some_iff.mp hy).1
  omega
theorem a_ctor {S : Type} {w1 : S → va_W} (C : Cx p s m args c cc nL own) (hK : va_K D classes (tys cs) s) {y : MethodName} {bytes : ByteArray} {maxL idx b mc ms : Nat} {rm : Room} {As : List Value} {e0 : va_E} {X : State → Prop} (hX : ∀ U : State, s.WarmedH U.vm → X U) (hXb : ∀ (a : Array Value) (U : State) (g : JFrame) (mk : MethodId), X U → X (U.calling g mk a)) (n : Nat) (hM : ∀ sz : Nat, Met l y (.code y bytes maxL none :: TT) rm (va_Pc (.ref b :: As) (PcC D cs sz b e0 X)) (QcC D w1 sz b e0) mc ms (va_A [(b, e0)] sz)) (S1 : Cond.code y bytes maxL none ∈ TT) (S2 : Cond.instanceMethod y ∈ TT) (S3 : Cond.initialized y.cls ∈ TT) (hyn : y.name = "<init>") (hd : y.cls ≠ "java/lang/invoke/MethodHandle" ∧ y.cls ≠ "java/lang/invoke/VarHandle" ∧ (parseMethodDescriptor y.desc).map (fun d => d.parameters.length) = some n) (hl : Cond.methodLink own idx y ∈ TT) (q0 : Nat) (isR : List Nat) (wr : va_W) (he : ws[q0]? = some (b, e0)) (hR2 : isR.map (fun i => ws[i]?) = wr.map some) (hnd : va_nd isR = true) (hdis : ∀ i ∈ isR, i ∉ [q0]) (hA : ∀ q, s.heap.size ≤ q → A q) (hn : As.length = n) (hR : rm.frames + 1 ≤ R.frames ∧ 8 + (maxL + 11) + rm.locals ≤ R.locals) (hz : rm.cells = mc ∧ rm.slots = ms) (hcc : kc + mc ≤ R.cells ∧ ns + ms ≤ R.slots) (d : decode cc pc = .ok (.invokespecial idx, 3)) (hp : pc + 3 = pc1) (hst : st = As.reverse ++ .ref b :: rest) (hW : (rest.map fun v => v.category).sum ≤ 8)
    (k : ∀ u : S, GA p l e R s m args below meth c Q D A nL (kc + mc) (ns + ms) (wr ++ w1 u) pc1 L rest) : GA p l e R s m args below meth c Q D A nL kc ns ws pc L st := by
  subst hp
  intro H locs ls h1 h2 h3 h4
  have hC : [q0].map (fun i => ws[i]?) = ([(b, e0)] : va_W).map some := by
    show [ws[q0]?] = [some (b, e0)]
    rw [he]
  have hPc := h1.sub (ws' := [(b, e0)]) [q0] (by show List.filterMap _ _ = _; simp [he])
  have hFc := va_free (wc := [(b, e0)]) h2 h3 hA [q0] hC
  refine va_callv (va_runI ⟨C.x, C.b, C.ml, C.own, C.ts⟩ (hM H.size) ⟨callB_of n C.ts (TT_inc S1) rfl hz.1 hz.2 (C.ts _ S3) (C.ts _ hl) hd hR, hyn, C.ts _ S2⟩ ⟨fun a U g mk q => ⟨q.1, q.2.1, q.2.2.1, va_K.moved (u := U) (U := U.calling g mk a) (Vm.Alike.refl U.vm) q.2.2.2.1, Nst.same rfl q.2.2.2.2.1, hXb a U g mk q.2.2.2.2.2⟩, fun U hU hW => ⟨rfl, by rw [hU], by rw [hU]; exact hPc, va_K.moved hW.alike hK, Nst.warm hW C.n, hX U hW⟩⟩ rfl hn h4.1 hst (lv_room hW) d hcc) h3 (fun q _ h => hFc q h) hFc (fun u t H1 locs1 ht hvm hw hB hz1 hk1 hS => ?_)
  obtain ⟨hB1, hB2⟩ := hB
  rw [ht] at hB1
  obtain ⟨g1, g2⟩ := va_join (wr := wr) (w1 := w1 u) h1 h2 [q0] isR hC hR2 hnd hdis hk1 hFc hB1 hB2
  exact k u H1 locs1 ls g1 g2 hS h4
/-- a void method over the whole of the present world (in a constructor) -/
theorem a_callV0 (C : Cx p s m args c cc nL own) (hK : va_K D classes (tys cs) s) {y : MethodName} {bytes : ByteArray} {maxL idx b ci N : Nat} {T : u_T} {fs : List Value} {rt : Option FieldType} {rm : Room} {As : List Value} {ws1 : va_W} {A1 : Nat → Prop} (n : Nat) (hM : MetV l y bytes maxL rt rm D cs A1 ws (.ref b :: As) ws1) (hA1 : ∀ q, A1 q ↔ q ∈ ws.map (fun q => q.1)) (had : ws1.map (fun q => q.1) = ws.map (fun q => q.1)) (S : VY y bytes maxL rt n) (hl : Cond.methodLink own idx y ∈ TT) (q0 : Nat) (he : ws[q0]? = some (b, .inr (ci, fs))) (hci : classes[ci]? = some (y.cls, T, N)) (hn : As.length = n) (hR : rm.frames + 1 ≤ R.frames ∧ 8 + (maxL + 11) + rm.locals ≤ R.locals) (hz : rm.cells = 0 ∧ rm.slots = 0) (hcc : kc ≤ R.cells ∧ ns ≤ R.slots) (d : decode cc pc = .ok (.invokevirtual idx, 3)) (hp : pc + 3 = pc1) (hst : st = As.reverse ++ .ref b :: rest) (hW : (rest.map fun v => v.category).sum ≤ 8) (k : GA p l e R s m args below meth c Q D A nL kc ns ws1 pc1 L rest) : GA p l e R s m args below meth c Q D A nL kc ns ws pc L st := by
  subst hp
  intro H locs ls h1 h2 h3 h4
  have hsub : ∀ q, A1 q → A q := fun q hq => by
    obtain ⟨x, hx, hxe⟩ := List.mem_map.mp ((hA1 q).mp hq)
    obtain ⟨j, hj⟩ := List.mem_iff_getElem?.mp hx
    rw [← hxe]; exact h2.2 j x hj
  have hD1 : va_D A1 ws := h2.weaken (fun i q hi _ => (hA1 q.1).mpr (List.mem_map_of_mem (f := fun q : Nat × va_E => q.1) (List.mem_of_getElem? hi)))
  refine va_callv (A1 := A1) (va_runV ⟨C.x, C.b, C.ml, C.own, C.ts⟩ hM ⟨callB_of n C.ts (TT_inc S.1) rfl hz.1 hz.2 (C.ts _ S.2.2.2.1) (C.ts _ hl) S.2.2.2.2 hR, C.ts _ S.2.1, C.ts _ S.2.2.1⟩ ⟨blindW, va_recv hK h1 hci he, fun U hU hW => ⟨rfl, by rw [hU]; exact h1, va_K.moved hW.alike hK, Nst.warm hW C.n, hD1⟩⟩ rfl hn h4.1 hst (lv_room hW) d ⟨by omega, by omega⟩) h3 (fun q _ h => hsub q h) hsub (fun u t H1 locs1 ht hvm hw hB hz1 hk1 hS => ?_)
  exact k H1 locs1 ls (ht ▸ hB.1) (D_adr h2 had) hS h4
theorem a_callFI (C : Cx p s m args c cc nL own) (hK : va_K D classes (tys cs) s) {y : MethodName} {bytes : ByteArray} {maxL idx b ci N : Nat} {T : u_T} {fs : List Value} {rt : Option FieldType} {rm : Room} {As : List Value} {r : Int32} {ws1 wc wc1 : va_W} {A1 : Nat → Prop} (n : Nat) (F : Fr A A1 ws wc wc1 ws1) (hM : MetI l y bytes maxL rt rm D cs A1 wc (.ref b :: As) r wc1) (S : VY y bytes maxL rt n) (hl : Cond.methodLink own idx y ∈ TT) (q0 : Nat) (he : ws[q0]? = some (b, .inr (ci, fs))) (hci : classes[ci]? = some (y.cls, T, N)) (hn : As.length = n) (hR : rm.frames + 1 ≤ R.frames ∧ 8 + (maxL + 11) + rm.locals ≤ R.locals) (hz : rm.cells = 0 ∧ rm.slots = 0) (hcc : kc ≤ R.cells ∧ ns ≤ R.slots) (d : decode cc pc = .ok (.invokevirtual idx, 3)) (hp : pc + 3 = pc1) (hst : st = As.reverse ++ .ref b :: rest) (hW : (rest.map fun v => v.category).sum ≤ 8) (k : GA p l e R s m args below meth c Q D A nL kc ns ws1 pc1 L (.int r :: rest)) : GA p l e R s m args below meth c Q D A nL kc ns ws pc L st := by
  subst hp
  intro H locs ls h1 h2 h3 h4
  obtain ⟨f1, f1', ⟨is, f2⟩, f3, f4, f5⟩ := F
  refine va_calli (A1 := A1) (va_runV ⟨C.x, C.b, C.ml, C.own, C.ts⟩ hM ⟨callB_of n C.ts (TT_inc S.1) rfl hz.1 hz.2 (C.ts _ S.2.2.2.1) (C.ts _ hl) S.2.2.2.2 hR, C.ts _ S.2.1, C.ts _ S.2.2.1⟩ ⟨blindW, va_recv hK h1 hci he, fun U hU hW => ⟨rfl, ⟨by rw [hU]; exact h1.sub is f2, va_K.moved hW.alike hK, Nst.warm hW C.n, f3 h2⟩⟩⟩ rfl hn h4.1 hst (lv_room hW) d ⟨by omega, by omega⟩) h3 (fun _ _ h => f1 _ h) (fun _ h => f1 _ h) (fun r1 u t H1 locs1 ht hvm hw hB hz1 hk1 hS => ?_)
  subst hw
  exact k H1 locs1 ls (f5 D H H1 h1 h2 (fun q hq hn => hk1 q hq (fun hA => hn (f1' q hA))) (ht ▸ hB.1)) (f4 h2) hS h4
theorem a_callXI (C : Cx p s m args c cc nL own) (hK : va_K D classes (tys cs) s) {adK adV : Nat → Nat} (hX : Sx adK adV A s s.heap) {y : MethodName} {bytes : ByteArray} {maxL idx b ci N : Nat} {T : u_T} {fs : List Value} {rt : Option FieldType} {rm : Room} {As : List Value} {r : Int32} {ws1 wc wc1 : va_W} {A1 : Nat → Prop} (n : Nat) (F : Fr A A1 ws wc wc1 ws1) (hM : MtXI adK adV l y bytes maxL rt rm D cs A1 wc (.ref b :: As) r wc1) (S : VY y bytes maxL rt n) (hl : Cond.methodLink own idx y ∈ TT) (q0 : Nat) (he : ws[q0]? = some (b, .inr (ci, fs))) (hci : classes[ci]? = some (y.cls, T, N)) (hn : As.length = n) (hR : rm.frames + 1 ≤ R.frames ∧ 8 + (maxL + 11) + rm.locals ≤ R.locals) (hz : rm.cells = 0 ∧ rm.slots = 0) (hcc : kc ≤ R.cells ∧ ns ≤ R.slots) (d : decode cc pc = .ok (.invokevirtual idx, 3)) (hp : pc + 3 = pc1) (hst : st = As.reverse ++ .ref b :: rest) (hW : (rest.map fun v => v.category).sum ≤ 8) (k : GA p l e R s m args below meth c Q D A nL kc ns ws1 pc1 L (.int r :: rest)) : GA p l e R s m args below meth c Q D A nL kc ns ws pc L st := by
  subst hp
  intro H locs ls h1 h2 h3 h4
  obtain ⟨f1, f1', ⟨is, f2⟩, f3, f4, f5⟩ := F
  refine va_calli (A1 := A1) (va_runV ⟨C.x, C.b, C.ml, C.own, C.ts⟩ hM ⟨callB_of n C.ts (TT_inc S.1) rfl hz.1 hz.2 (C.ts _ S.2.2.2.1) (C.ts _ hl) S.2.2.2.2 hR, C.ts _ S.2.1, C.ts _ S.2.2.1⟩ ⟨blindX, va_recv hK h1 hci he, fun U hU hW => ⟨rfl, ⟨⟨by rw [hU]; exact h1.sub is f2, va_K.moved hW.alike hK, Nst.warm hW C.n, f3 h2⟩, hX.go h3 hU hW f1⟩⟩⟩ rfl hn h4.1 hst (lv_room hW) d ⟨by omega, by omega⟩) h3 (fun _ _ h => f1 _ h) (fun _ h => f1 _ h) (fun r1 u t H1 locs1 ht hvm hw hB hz1 hk1 hS => ?_)
  subst hw
  exact k H1 locs1 ls (f5 D H H1 h1 h2 (fun q hq hn => hk1 q hq (fun hA => hn (f1' q hA))) (ht ▸ hB.1)) (f4 h2) hS h4
theorem a_callFL (C : Cx p s m args c cc nL own) (hK : va_K D classes (tys cs) s) {y : MethodName} {bytes : ByteArray} {maxL idx b ci N : Nat} {T : u_T} {fs : List Value} {rt : Option FieldType} {rm : Room} {As : List Value} {r : Int64} {ws1 wc wc1 : va_W} {A1 : Nat → Prop} (n : Nat) (F : Fr A A1 ws wc wc1 ws1) (hM : MetL l y bytes maxL rt rm D cs A1 wc (.ref b :: As) r wc1) (S : VY y bytes maxL rt n) (hl : Cond.methodLink own idx y ∈ TT) (q0 : Nat) (he : ws[q0]? = some (b, .inr (ci, fs))) (hci : classes[ci]? = some (y.cls, T, N)) (hn : As.length = n) (hR : rm.frames + 1 ≤ R.frames ∧ 8 + (maxL + 11) + rm.locals ≤ R.locals) (hz : rm.cells = 0 ∧ rm.slots = 0) (hcc : kc ≤ R.cells ∧ ns ≤ R.slots) (d : decode cc pc = .ok (.invokevirtual idx, 3)) (hp : pc + 3 = pc1) (hst : st = As.reverse ++ .ref b :: rest) (hW : (rest.map fun v => v.category).sum ≤ 8) (k : GA p l e R s m args below meth c Q D A nL kc ns ws1 pc1 L (.long r :: rest)) : GA p l e R s m args below meth c Q D A nL kc ns ws pc L st := by
  subst hp
  intro H locs ls h1 h2 h3 h4
  obtain ⟨f1, f1', ⟨is, f2⟩, f3, f4, f5⟩ := F
  refine va_calll (A1 := A1) (va_runV ⟨C.x, C.b, C.ml, C.own, C.ts⟩ hM ⟨callB_of n C.ts (TT_inc S.1) rfl hz.1 hz.2 (C.ts _ S.2.2.2.1) (C.ts _ hl) S.2.2.2.2 hR, C.ts _ S.2.1, C.ts _ S.2.2.1⟩ ⟨blindW, va_recv hK h1 hci he, fun U hU hW => ⟨rfl, ⟨by rw [hU]; exact h1.sub is f2, va_K.moved hW.alike hK, Nst.warm hW C.n, f3 h2⟩⟩⟩ rfl hn h4.1 hst (lv_room hW) d ⟨by omega, by omega⟩) h3 (fun _ _ h => f1 _ h) (fun _ h => f1 _ h) (fun r1 u t H1 locs1 ht hvm hw hB hz1 hk1 hS => ?_)
  subst hw
  exact k H1 locs1 ls (f5 D H H1 h1 h2 (fun q hq hn => hk1 q hq (fun hA => hn (f1' q hA))) (ht ▸ hB.1)) (f4 h2) hS h4
theorem a_sld (C : Cx p s m args c cc nL own) {b LL : Nat} {xs : Nat → Int32} (hX : va_X b LL xs s s.heap) (hbl : b < s.heap.size) (hbA : ¬ A b) {i : Int32} (hin : inb i LL = true) (d : decode cc pc = .ok (.iaload, 1)) (hp : pc + 1 = pc1) (k : GA p l e R s m args below meth c Q D A nL kc ns ws pc1 L (.int (xs i.toNatClampNeg) :: rest)) : GA p l e R s m args below meth c Q D A nL kc ns ws pc L (.int i :: .ref b :: rest) := by
  subst hp
  intro H locs ls h1 h2 h3 h4
  exact va_sld C.x C.b hX hbl hbA h3 (inb_in hin) d (k H locs ls h1 h2 h3 h4)
theorem a_slen (C : Cx p s m args c cc nL own) {b LL : Nat} {xs : Nat → Int32} (hX : va_X b LL xs s s.heap) (hbl : b < s.heap.size) (hbA : ¬ A b) (d : decode cc pc = .ok (.arraylength, 1)) (hp : pc + 1 = pc1) (k : GA p l e R s m args below meth c Q D A nL kc ns ws pc1 L (.int (Int32.ofNat LL) :: rest)) : GA p l e R s m args below meth c Q D A nL kc ns ws pc L (.ref b :: rest) := by
  subst hp
  intro H locs ls h1 h2 h3 h4
  exact va_slen C.x C.b hX hbl hbA h3 d (k H locs ls h1 h2 h3 h4)
end AROWS
