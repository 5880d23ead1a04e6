/-! String constants and the JDK methods that read them. Printed by wip/whole/strings.py. -/
def y_JS_charAt : MethodName := ⟨"java/lang/String", "charAt", "(I)C"⟩
abbrev b_JS_charAt : ByteArray := prog_10_method_56_code
theorem s_JS_charAt : VY y_JS_charAt b_JS_charAt 2 (some .char) 1 := ⟨tm 448 (by decide +kernel) (by decide +kernel), tm 446 (by decide +kernel) (by decide +kernel), tm 447 (by decide +kernel) (by decide +kernel), tm 79 (by decide +kernel) (by decide +kernel), by decide +kernel⟩
theorem d_JS_charAt_0 : decode b_JS_charAt 0 = .ok (.aload_n 0, 1) := by decide +kernel
theorem d_JS_charAt_1 : decode b_JS_charAt 1 = .ok (.invokevirtual 492, 3) := by decide +kernel
theorem d_JS_charAt_4 : decode b_JS_charAt 4 = .ok (.ifCond .eq 12, 3) := by decide +kernel
theorem d_JS_charAt_7 : decode b_JS_charAt 7 = .ok (.aload_n 0, 1) := by decide +kernel
theorem d_JS_charAt_8 : decode b_JS_charAt 8 = .ok (.getfield 9, 3) := by decide +kernel
theorem d_JS_charAt_11 : decode b_JS_charAt 11 = .ok (.iload_n 1, 1) := by decide +kernel
theorem d_JS_charAt_12 : decode b_JS_charAt 12 = .ok (.invokestatic 495, 3) := by decide +kernel
theorem d_JS_charAt_15 : decode b_JS_charAt 15 = .ok (.ireturn, 1) := by decide +kernel
theorem d_JS_charAt_16 : decode b_JS_charAt 16 = .ok (.aload_n 0, 1) := by decide +kernel
theorem d_JS_charAt_17 : decode b_JS_charAt 17 = .ok (.getfield 9, 3) := by decide +kernel
theorem d_JS_charAt_20 : decode b_JS_charAt 20 = .ok (.iload_n 1, 1) := by decide +kernel
theorem d_JS_charAt_21 : decode b_JS_charAt 21 = .ok (.invokestatic 498, 3) := by decide +kernel
theorem d_JS_charAt_24 : decode b_JS_charAt 24 = .ok (.ireturn, 1) := by decide +kernel
def y_JS_checkIndex : MethodName := ⟨"java/lang/String", "checkIndex", "(II)V"⟩
abbrev b_JS_checkIndex : ByteArray := prog_10_method_155_code
theorem s_JS_checkIndex : SY y_JS_checkIndex b_JS_checkIndex 2 none 2 := ⟨tm 458 (by decide +kernel) (by decide +kernel), tm 457 (by decide +kernel) (by decide +kernel), tm 79 (by decide +kernel) (by decide +kernel), by decide +kernel⟩
theorem d_JS_checkIndex_0 : decode b_JS_checkIndex 0 = .ok (.iload_n 0, 1) := by decide +kernel
theorem d_JS_checkIndex_1 : decode b_JS_checkIndex 1 = .ok (.iload_n 1, 1) := by decide +kernel
theorem d_JS_checkIndex_2 : decode b_JS_checkIndex 2 = .ok (.getstatic 1053, 3) := by decide +kernel
theorem d_JS_checkIndex_5 : decode b_JS_checkIndex 5 = .ok (.invokestatic 1059, 3) := by decide +kernel
theorem d_JS_checkIndex_8 : decode b_JS_checkIndex 8 = .ok (.pop, 1) := by decide +kernel
theorem d_JS_checkIndex_9 : decode b_JS_checkIndex 9 = .ok (.return_, 1) := by decide +kernel
def y_JS_coder : MethodName := ⟨"java/lang/String", "coder", "()B"⟩
abbrev b_JS_coder : ByteArray := prog_10_method_152_code
theorem s_JS_coder : VY y_JS_coder b_JS_coder 1 (some .byte) 0 := ⟨tm 442 (by decide +kernel) (by decide +kernel), tm 440 (by decide +kernel) (by decide +kernel), tm 441 (by decide +kernel) (by decide +kernel), tm 79 (by decide +kernel) (by decide +kernel), by decide +kernel⟩
theorem d_JS_coder_0 : decode b_JS_coder 0 = .ok (.getstatic 38, 3) := by decide +kernel
theorem d_JS_coder_3 : decode b_JS_coder 3 = .ok (.ifCond .eq 10, 3) := by decide +kernel
theorem d_JS_coder_6 : decode b_JS_coder 6 = .ok (.aload_n 0, 1) := by decide +kernel
theorem d_JS_coder_7 : decode b_JS_coder 7 = .ok (.getfield 15, 3) := by decide +kernel
theorem d_JS_coder_10 : decode b_JS_coder 10 = .ok (.goto 4, 3) := by decide +kernel
theorem d_JS_coder_13 : decode b_JS_coder 13 = .ok (.iconst 1, 1) := by decide +kernel
theorem d_JS_coder_14 : decode b_JS_coder 14 = .ok (.ireturn, 1) := by decide +kernel
def y_JS_isLatin1 : MethodName := ⟨"java/lang/String", "isLatin1", "()Z"⟩
abbrev b_JS_isLatin1 : ByteArray := prog_10_method_154_code
theorem s_JS_isLatin1 : VY y_JS_isLatin1 b_JS_isLatin1 1 (some .boolean) 0 := ⟨tm 452 (by decide +kernel) (by decide +kernel), tm 450 (by decide +kernel) (by decide +kernel), tm 451 (by decide +kernel) (by decide +kernel), tm 79 (by decide +kernel) (by decide +kernel), by decide +kernel⟩
theorem d_JS_isLatin1_0 : decode b_JS_isLatin1 0 = .ok (.getstatic 38, 3) := by decide +kernel
theorem d_JS_isLatin1_3 : decode b_JS_isLatin1 3 = .ok (.ifCond .eq 14, 3) := by decide +kernel
theorem d_JS_isLatin1_6 : decode b_JS_isLatin1 6 = .ok (.aload_n 0, 1) := by decide +kernel
theorem d_JS_isLatin1_7 : decode b_JS_isLatin1 7 = .ok (.getfield 15, 3) := by decide +kernel
theorem d_JS_isLatin1_10 : decode b_JS_isLatin1 10 = .ok (.ifCond .ne 7, 3) := by decide +kernel
theorem d_JS_isLatin1_13 : decode b_JS_isLatin1 13 = .ok (.iconst 1, 1) := by decide +kernel
theorem d_JS_isLatin1_14 : decode b_JS_isLatin1 14 = .ok (.goto 4, 3) := by decide +kernel
theorem d_JS_isLatin1_17 : decode b_JS_isLatin1 17 = .ok (.iconst 0, 1) := by decide +kernel
theorem d_JS_isLatin1_18 : decode b_JS_isLatin1 18 = .ok (.ireturn, 1) := by decide +kernel
def y_JS_length : MethodName := ⟨"java/lang/String", "length", "()I"⟩
abbrev b_JS_length : ByteArray := prog_10_method_54_code
theorem s_JS_length : VY y_JS_length b_JS_length 1 (some .int) 0 := ⟨tm 438 (by decide +kernel) (by decide +kernel), tm 436 (by decide +kernel) (by decide +kernel), tm 437 (by decide +kernel) (by decide +kernel), tm 79 (by decide +kernel) (by decide +kernel), by decide +kernel⟩
theorem d_JS_length_0 : decode b_JS_length 0 = .ok (.aload_n 0, 1) := by decide +kernel
theorem d_JS_length_1 : decode b_JS_length 1 = .ok (.getfield 9, 3) := by decide +kernel
theorem d_JS_length_4 : decode b_JS_length 4 = .ok (.arraylength, 1) := by decide +kernel
theorem d_JS_length_5 : decode b_JS_length 5 = .ok (.aload_n 0, 1) := by decide +kernel
theorem d_JS_length_6 : decode b_JS_length 6 = .ok (.invokevirtual 335, 3) := by decide +kernel
theorem d_JS_length_9 : decode b_JS_length 9 = .ok (.ishr, 1) := by decide +kernel
theorem d_JS_length_10 : decode b_JS_length 10 = .ok (.ireturn, 1) := by decide +kernel
def y_JL_charAt : MethodName := ⟨"java/lang/StringLatin1", "charAt", "([BI)C"⟩
abbrev b_JL_charAt : ByteArray := prog_11_method_2_code
theorem s_JL_charAt : SY y_JL_charAt b_JL_charAt 2 (some .char) 2 := ⟨tm 455 (by decide +kernel) (by decide +kernel), tm 454 (by decide +kernel) (by decide +kernel), tm 80 (by decide +kernel) (by decide +kernel), by decide +kernel⟩
theorem d_JL_charAt_0 : decode b_JL_charAt 0 = .ok (.iload_n 1, 1) := by decide +kernel
theorem d_JL_charAt_1 : decode b_JL_charAt 1 = .ok (.aload_n 0, 1) := by decide +kernel
theorem d_JL_charAt_2 : decode b_JL_charAt 2 = .ok (.arraylength, 1) := by decide +kernel
theorem d_JL_charAt_3 : decode b_JL_charAt 3 = .ok (.invokestatic 9, 3) := by decide +kernel
theorem d_JL_charAt_6 : decode b_JL_charAt 6 = .ok (.aload_n 0, 1) := by decide +kernel
theorem d_JL_charAt_7 : decode b_JL_charAt 7 = .ok (.iload_n 1, 1) := by decide +kernel
theorem d_JL_charAt_8 : decode b_JL_charAt 8 = .ok (.baload, 1) := by decide +kernel
theorem d_JL_charAt_9 : decode b_JL_charAt 9 = .ok (.sipush 255, 3) := by decide +kernel
theorem d_JL_charAt_12 : decode b_JL_charAt 12 = .ok (.iand, 1) := by decide +kernel
theorem d_JL_charAt_13 : decode b_JL_charAt 13 = .ok (.i2c, 1) := by decide +kernel
theorem d_JL_charAt_14 : decode b_JL_charAt 14 = .ok (.ireturn, 1) := by decide +kernel
def y_JP_checkIndex : MethodName := ⟨"jdk/internal/util/Preconditions", "checkIndex", "(IILjava/util/function/BiFunction;)I"⟩
abbrev b_JP_checkIndex : ByteArray := prog_14_method_11_code
theorem s_JP_checkIndex : SY y_JP_checkIndex b_JP_checkIndex 3 (some .int) 3 := ⟨tm 463 (by decide +kernel) (by decide +kernel), tm 462 (by decide +kernel) (by decide +kernel), tm 81 (by decide +kernel) (by decide +kernel), by decide +kernel⟩
theorem d_JP_checkIndex_0 : decode b_JP_checkIndex 0 = .ok (.iload_n 0, 1) := by decide +kernel
theorem d_JP_checkIndex_1 : decode b_JP_checkIndex 1 = .ok (.ifCond .lt 8, 3) := by decide +kernel
theorem d_JP_checkIndex_4 : decode b_JP_checkIndex 4 = .ok (.iload_n 0, 1) := by decide +kernel
theorem d_JP_checkIndex_5 : decode b_JP_checkIndex 5 = .ok (.iload_n 1, 1) := by decide +kernel
theorem d_JP_checkIndex_6 : decode b_JP_checkIndex 6 = .ok (.if_icmp .lt 10, 3) := by decide +kernel
theorem d_JP_checkIndex_16 : decode b_JP_checkIndex 16 = .ok (.iload_n 0, 1) := by decide +kernel
theorem d_JP_checkIndex_17 : decode b_JP_checkIndex 17 = .ok (.ireturn, 1) := by decide +kernel
theorem kx_38 : Cond.fieldLink "java/lang/String" 38 "java/lang/String" "COMPACT_STRINGS" "Z" ∈ TT := tm 443 (by decide +kernel) (by decide +kernel)
theorem kx_1053 : Cond.fieldLink "java/lang/String" 1053 "jdk/internal/util/Preconditions" "SIOOBE_FORMATTER" "Ljava/util/function/BiFunction;" ∈ TT := tm 459 (by decide +kernel) (by decide +kernel)
theorem kx_9 : Cond.fieldLink "java/lang/String" 9 "java/lang/String" "value" "[B" ∈ TT := tm 1296 (by decide +kernel) (by decide +kernel)
theorem kx_15 : Cond.fieldLink "java/lang/String" 15 "java/lang/String" "coder" "B" ∈ TT := tm 1297 (by decide +kernel) (by decide +kernel)
theorem kx_335 : Cond.methodLink "java/lang/String" 335 y_JS_coder ∈ TT := tm 439 (by decide +kernel) (by decide +kernel)
theorem kx_492 : Cond.methodLink "java/lang/String" 492 y_JS_isLatin1 ∈ TT := tm 449 (by decide +kernel) (by decide +kernel)
theorem kx_495 : Cond.methodLink "java/lang/String" 495 y_JL_charAt ∈ TT := tm 453 (by decide +kernel) (by decide +kernel)
theorem kx_L9 : Cond.methodLink "java/lang/StringLatin1" 9 y_JS_checkIndex ∈ TT := tm 456 (by decide +kernel) (by decide +kernel)
theorem kx_1059 : Cond.methodLink "java/lang/String" 1059 y_JP_checkIndex ∈ TT := tm 461 (by decide +kernel) (by decide +kernel)
theorem kx_179 : Cond.methodLink "TentPegs$Reader" 179 y_JS_length ∈ TT := tm 435 (by decide +kernel) (by decide +kernel)
theorem kx_184 : Cond.methodLink "TentPegs$Reader" 184 y_JS_charAt ∈ TT := tm 445 (by decide +kernel) (by decide +kernel)
def st_len : List Nat := [4, 3, 3, 4, 4, 4]
def st_byt : List (List Int32) := [[116, 101, 110, 116], [112, 101, 103], [119, 101, 116], [119, 97, 108, 108], [111, 100, 100, 115], [103, 111, 110, 101]]
def st_idx : List Nat := [159, 165, 167, 169, 171, 173]
def st_txt : List String := ["tent", "peg", "wet", "wall", "odds", "gone"]
def slen (w : Nat) : Nat := st_len.getD w 0
def schr (w j : Nat) : Int32 := (st_byt.getD w []).getD j 0
def SzN : String := "Ljava/util/function/BiFunction;"
def Sx (adK adV : Nat → Nat) (A : Nat → Prop) (U : State) (H : Heap) : Prop := va_Z "java/lang/String" "COMPACT_STRINGS" "Z" (.int 1) A U H ∧ va_Zq "jdk/internal/util/Preconditions" "SIOOBE_FORMATTER" SzN A U H ∧ vk_S 6 st_len st_byt adK adV A U H ∧ ∀ i, i < 6 → vk_R "TentPegs$Reader" (st_idx.getD i 0) (st_txt.getD i "") (adK i) U
theorem Sx.warm {adK adV : Nat → Nat} {A : Nat → Prop} {s U : State} {H : Heap} (hW : s.WarmedH U.vm) (h : Sx adK adV A s H) : Sx adK adV A U H := ⟨va_Z.moved hW.alike h.1, va_Zq.moved hW.alike h.2.1, vk_S.moved hW.alike h.2.2.1, fun i hi => (h.2.2.2 i hi).warm hW⟩
theorem Sx.same {adK adV : Nat → Nat} {A : Nat → Prop} {u U : State} {H : Heap} (hv : U.vm = u.vm) (h : Sx adK adV A u H) : Sx adK adV A U H := by
  have hA : u.vm.Alike U.vm := by rw [hv]; exact Vm.Alike.refl u.vm
  exact ⟨va_Z.moved hA h.1, va_Zq.moved hA h.2.1, vk_S.moved hA h.2.2.1, fun i hi => vk_R.same hv (h.2.2.2 i hi)⟩
theorem Sx.kept {adK adV : Nat → Nat} {A : Nat → Prop} {U : State} {H H1 : Heap} (h : Sx adK adV A U H) (hq : ∀ a : Nat, a < H.size → ¬ A a → H1[a]? = H[a]?) : Sx adK adV A U H1 := ⟨h.1.kept hq, h.2.1.kept hq, h.2.2.1.kept hq, h.2.2.2⟩
theorem Sx.narrow {adK adV : Nat → Nat} {A B : Nat → Prop} {U : State} {H : Heap} (h : Sx adK adV A U H) (hAB : ∀ q, B q → A q) : Sx adK adV B U H := ⟨h.1.narrow hAB, h.2.1.narrow hAB, h.2.2.1.narrow hAB, h.2.2.2⟩
theorem Sx.go {adK adV : Nat → Nat} {A B : Nat → Prop} {s U : State} {H : Heap} {locs : List Loc} (h : Sx adK adV A s s.heap) (hS : va_S A s.heap H locs) (hU : U.heap = H) (hW : s.WarmedH U.vm) (hAB : ∀ q, B q → A q) : Sx adK adV B U U.heap := by
  rw [hU]
  exact ((h.warm hW).kept hS.2.1).narrow hAB
def PcS (adK adV : Nat → Nat) : State → Prop := fun U => Sx adK adV (fun _ => False) U U.heap ∧ Nst U
theorem blindS {adK adV : Nat → Nat} {av : List Value} : FrameBlind (va_Pc av (PcS adK adV)) := fun _ _ _ _ q => ⟨q.1, Sx.same rfl q.2.1, Nst.same rfl q.2.2⟩
def PcX (D : va_G) (cs : Nat → ClassId) (adK adV : Nat → Nat) (A : Nat → Prop) (ws : va_W) : State → Prop := fun U => PcW D cs A ws U ∧ Sx adK adV A U U.heap
theorem blindX {D : va_G} {cs : Nat → ClassId} {adK adV : Nat → Nat} {A : Nat → Prop} {ws : va_W} {av : List Value} : FrameBlind (va_Pc av (PcX D cs adK adV A ws)) := fun a U g mk q => ⟨q.1, (blindW (av := av) a U g mk ⟨q.1, q.2.1⟩).2, Sx.same rfl q.2.2⟩
section XROWS
variable {p : Program} {l : Launch} {e : Env} {R : Room} {s : State} {m : MethodId} {args : Array Value} {below : List Frame} {meth : Method} {c : Code} {Q : State → Prop} {D : va_G} {A : Nat → Prop} {nL : Nat} {ws : va_W} {pc pc1 : Nat} {L L1 : List (Nat × Value)} {st rest : List Value} {cc : ByteArray} {own : String} {adK adV : Nat → Nat}
theorem met_ofXS {l : Launch} {y : MethodName} {own : String} {cc : ByteArray} {maxL : Nat} {ret : Option FieldType} {rm : Room} {av : List Value} {Qc : Array Value → State → Outcome → State → Prop} (hy : y.cls = own) (hpl : plainName own = true) (hsz : (lg_sl av).length ≤ maxL)
    (body : ∀ p e s m below meth c, Cx p s m av.toArray c cc maxL own → Sx adK adV (fun _ => False) s s.heap → meth.sig.returnType = ret → meth.locks = false → G p l e rm s m av.toArray below meth c (MQ below Qc av.toArray s 0 0 (fun _ => False)) (fun _ => 0, fun _ _ => 0) (fun _ => False) maxL [] 0 (lv_args 0 av) []) : Met l y (.code y cc maxL ret :: TT) rm (va_Pc av (PcS adK adV)) Qc 0 0 (fun _ => False) := by
  refine Met.ofW (cc := cc) (maxL := maxL) (ret := ret) (by rw [hy]; exact hpl) rfl ?_
  intro p e s m args below meth c s₁ B hml hv
  obtain ⟨rfl, hX, hN⟩ := hv
  have hts := atoms_spec (ws := .code y cc maxL ret :: TT) B.pre
  have hown : s.vm.findClass own = some m.cls := by rw [← hy]; exact findClass_of_methodNamed B.named
  have hl := lv_entry av (n := maxL) hsz
  rw [lg_entry_eq]
  exact body p e s m below meth c ⟨B.exec, B.bytes, hml, hown, fun w h => hts w (List.mem_cons_of_mem _ h), hN⟩ hX B.returns B.notSynchronized s.heap [] _ (fun k q h => by simp at h) ⟨fun i j p q h => by simp at h, fun k q h => by simp at h⟩ va_S.rf hl
theorem met_ofX {l : Launch} {y : MethodName} {own : String} {cc : ByteArray} {maxL : Nat} {ret : Option FieldType} {rm : Room} {D : va_G} {cs : Nat → ClassId} {A : Nat → Prop} {ws : va_W} {av : List Value} {Qc : Array Value → State → Outcome → State → Prop} (hy : y.cls = own) (hpl : plainName own = true) (hsz : (lg_sl av).length ≤ maxL)
    (body : ∀ p e s m below meth c, Cx p s m av.toArray c cc maxL own → va_K D classes (tys cs) s → Sx adK adV A s s.heap → meth.sig.returnType = ret → meth.locks = false → G p l e rm s m av.toArray below meth c (MQ below Qc av.toArray s 0 0 A) D A maxL ws 0 (lv_args 0 av) []) : Met l y (.code y cc maxL ret :: TT) rm (va_Pc av (PcX D cs adK adV A ws)) Qc 0 0 A := by
  refine Met.ofW (cc := cc) (maxL := maxL) (ret := ret) (by rw [hy]; exact hpl) rfl ?_
  intro p e s m args below meth c s₁ B hml hv
  obtain ⟨rfl, ⟨hP, hK, hN, hD⟩, hX⟩ := hv
  have hts := atoms_spec (ws := .code y cc maxL ret :: TT) B.pre
  have hown : s.vm.findClass own = some m.cls := by rw [← hy]; exact findClass_of_methodNamed B.named
  have hl := lv_entry av (n := maxL) hsz
  rw [lg_entry_eq]
  exact body p e s m below meth c ⟨B.exec, B.bytes, hml, hown, fun w h => hts w (List.mem_cons_of_mem _ h), hN⟩ hK hX B.returns B.notSynchronized s.heap [] _ hP hD va_S.rf hl
abbrev MtXI (adK adV : Nat → Nat) (l : Launch) (y : MethodName) (cc : ByteArray) (nL : Nat) (rt : Option FieldType) (rm : Room) (D : va_G) (cs : Nat → ClassId) (A : Nat → Prop) (ws : va_W) (av : List Value) (r : Int32) (ws1 : va_W) : Prop := Met l y (.code y cc nL rt :: TT) rm (va_Pc av (PcX D cs adK adV A ws)) (Qi A D ws1 r) 0 0 A
abbrev MtXV (adK adV : Nat → Nat) (l : Launch) (y : MethodName) (cc : ByteArray) (nL : Nat) (rt : Option FieldType) (rm : Room) (D : va_G) (cs : Nat → ClassId) (A : Nat → Prop) (ws : va_W) (av : List Value) (ws1 : va_W) : Prop := Met l y (.code y cc nL rt :: TT) rm (va_Pc av (PcX D cs adK adV A ws)) (Qv A D ws1) 0 0 A
theorem g_gets (C : Cx p s m args c cc nL own) {Cn n d : String} {v : Value} {idx : Nat} (hZ : va_Z Cn n d v A s s.heap) (hl : Cond.fieldLink own idx Cn n d ∈ TT) (dd : decode cc pc = .ok (.getstatic idx, 3)) (hp : pc + 3 = pc1) (k : G p l e R s m args below meth c Q D A nL ws pc1 L (v :: rest)) : G p l e R s m args below meth c Q D A nL ws pc L rest := by
  subst hp
  intro H locs ls h1 h2 h3 h4
  exact va_gets C.x C.b hZ h3 C.own (C.ts _ hl) (fun _ h => h) dd (k H locs ls h1 h2 h3 h4)
theorem g_strf (C : Cx p s m args c cc nL own) {o n d : String} {v : Value} {q idx : Nat} (hE : va_OF o n d v q A s s.heap) (hl : Cond.fieldLink own idx o n d ∈ TT) (dd : decode cc pc = .ok (.getfield idx, 3)) (hp : pc + 3 = pc1) (k : G p l e R s m args below meth c Q D A nL ws pc1 L (v :: rest)) : G p l e R s m args below meth c Q D A nL ws pc L (.ref q :: rest) := by
  subst hp
  intro H locs ls h1 h2 h3 h4
  exact vk_getf C.x C.b hE h3 C.own (C.ts _ hl) (fun _ h => h) dd (k H locs ls h1 h2 h3 h4)
theorem g_tlen (C : Cx p s m args c cc nL own) {ty : FieldType} {t N : Nat} {f : Nat → Value} (hT : va_T ty t N f A s s.heap) {v : Int32} (hv : Int32.ofNat N = v) (dd : decode cc pc = .ok (.arraylength, 1)) (hp : pc + 1 = pc1) (k : G p l e R s m args below meth c Q D A nL ws pc1 L (.int v :: rest)) : G p l e R s m args below meth c Q D A nL ws pc L (.ref t :: rest) := by
  subst hp
  intro H locs ls h1 h2 h3 h4
  exact va_tlen C.x C.b hT h3 hv dd (k H locs ls h1 h2 h3 h4)
theorem g_tb (C : Cx p s m args c cc nL own) {t N : Nat} {f : Nat → Value} (hT : va_T .byte t N f A s s.heap) {i : Int32} (hin : inb i N = true) {v : Value} (hv : f i.toNatClampNeg = v) (dd : decode cc pc = .ok (.baload, 1)) (hp : pc + 1 = pc1) (k : G p l e R s m args below meth c Q D A nL ws pc1 L (v :: rest)) : G p l e R s m args below meth c Q D A nL ws pc L (.int i :: .ref t :: rest) := by
  subst hp
  intro H locs ls h1 h2 h3 h4
  exact va_tb C.x C.b hT h3 (inb_in hin) hv dd (k H locs ls h1 h2 h3 h4)
theorem g_ldcS (C : Cx p s m args c cc nL own) {tx : String} {idx q : Nat} (hZ : vk_R own idx tx q s) (dd : decode cc pc = .ok (.ldc idx, 2)) (hp : pc + 2 = pc1) (k : G p l e R s m args below meth c Q D A nL ws pc1 L (.ref q :: rest)) : G p l e R s m args below meth c Q D A nL ws pc L rest := by
  subst hp
  intro H locs ls h1 h2 h3 h4
  exact va_ldcS C.x C.b C.own hZ dd (k H locs ls h1 h2 h3 h4)
/-- a call of a method on a string constant -/
theorem g_callStr (C : Cx p s m args c cc nL own) (hX : Sx adK adV A s s.heap) {i : Nat} (hi : i < 6) {y : MethodName} {bytes : ByteArray} {maxL idx : Nat} {rt : Option FieldType} {rm : Room} {As : List Value} {r : Int32} (n : Nat) (hM : Met l y (.code y bytes maxL rt :: TT) rm (va_Pc (.ref (adK i) :: As) (PcS adK adV)) (Qi (fun _ => False) (fun _ => 0, fun _ _ => 0) [] r) 0 0 (fun _ => False)) (S : VY y bytes maxL rt n) (hyc : y.cls = "java/lang/String") (hl : Cond.methodLink own idx y ∈ TT) (hn : As.length = n) (hR : rm.frames + 1 ≤ R.frames ∧ 8 + (maxL + 11) + rm.locals ≤ R.locals) (hz : rm.cells = 0 ∧ rm.slots = 0) (dd : decode cc pc = .ok (.invokevirtual idx, 3)) (hp : pc + 3 = pc1) (hst : st = As.reverse ++ .ref (adK i) :: rest) (hW : (rest.map fun v => v.category).sum ≤ 8) (k : G p l e R s m args below meth c Q D A nL ws pc1 L (.int r :: rest)) : G p l e R s m args below meth c Q D A nL ws pc L st := by
  subst hp
  intro H locs ls h1 h2 h3 h4
  refine va_calli (A1 := fun _ => False) (va_runV ⟨C.x, C.b, C.ml, C.own, C.ts⟩ hM ⟨callB_of n C.ts (TT_inc S.1) rfl hz.1 hz.2 (C.ts _ S.2.2.2.1) (C.ts _ hl) S.2.2.2.2 hR, C.ts _ S.2.1, C.ts _ S.2.2.1⟩ ⟨blindS, by rw [hyc]; exact vk_recv hX.2.2.1 hi h3, fun U hU hW => ⟨rfl, hX.go h3 hU hW (fun _ h => h.elim), Nst.warm hW C.n⟩⟩ rfl hn h4.1 hst (lv_room hW) dd ⟨by omega, by omega⟩) h3 (fun _ _ h => h.elim) (fun _ h => h.elim) (fun r1 u t H1 locs1 ht hvm hw hB hz1 hk1 hS => ?_)
  subst hw
  exact k H1 locs1 ls (h1.kept (fun j q hq => hk1 q.1 (h1 j q hq).lt (fun h => h))) h2 hS h4
theorem g_callXSI (C : Cx p s m args c cc nL own) (hX : Sx adK adV A s s.heap) {y : MethodName} {bytes : ByteArray} {maxL idx : Nat} {rt : Option FieldType} {rm : Room} {As : List Value} {r : Int32} (n : Nat) (hM : Met l y (.code y bytes maxL rt :: TT) rm (va_Pc As (PcS adK adV)) (Qi (fun _ => False) (fun _ => 0, fun _ _ => 0) [] r) 0 0 (fun _ => False)) (S : SY y bytes maxL rt n) (hl : Cond.methodLink own idx y ∈ TT) (hn : As.length = n) (hR : rm.frames + 1 ≤ R.frames ∧ 8 + (maxL + 11) + rm.locals ≤ R.locals) (hz : rm.cells = 0 ∧ rm.slots = 0) (dd : decode cc pc = .ok (.invokestatic idx, 3)) (hp : pc + 3 = pc1) (hst : st = As.reverse ++ rest) (hW : (rest.map fun v => v.category).sum ≤ 8) (k : G p l e R s m args below meth c Q D A nL ws pc1 L (.int r :: rest)) : G p l e R s m args below meth c Q D A nL ws pc L st := by
  subst hp
  intro H locs ls h1 h2 h3 h4
  refine va_calli (A1 := fun _ => False) (va_runS ⟨C.x, C.b, C.ml, C.own, C.ts⟩ hM ⟨callB_of n C.ts (TT_inc S.1) rfl hz.1 hz.2 (C.ts _ S.2.2.1) (C.ts _ hl) S.2.2.2 hR, C.ts _ S.2.1⟩ ⟨blindS, fun U hU hW => ⟨rfl, hX.go h3 hU hW (fun _ h => h.elim), Nst.warm hW C.n⟩⟩ rfl hn h4.1 hst (lv_room hW) dd ⟨by omega, by omega⟩) h3 (fun _ _ h => h.elim) (fun _ h => h.elim) (fun r1 u t H1 locs1 ht hvm hw hB hz1 hk1 hS => ?_)
  subst hw
  exact k H1 locs1 ls (h1.kept (fun j q hq => hk1 q.1 (h1 j q hq).lt (fun h => h))) h2 hS h4
theorem g_callXSV (C : Cx p s m args c cc nL own) (hX : Sx adK adV A s s.heap) {y : MethodName} {bytes : ByteArray} {maxL idx : Nat} {rt : Option FieldType} {rm : Room} {As : List Value} (n : Nat) (hM : Met l y (.code y bytes maxL rt :: TT) rm (va_Pc As (PcS adK adV)) (Qv (fun _ => False) (fun _ => 0, fun _ _ => 0) []) 0 0 (fun _ => False)) (S : SY y bytes maxL rt n) (hl : Cond.methodLink own idx y ∈ TT) (hn : As.length = n) (hR : rm.frames + 1 ≤ R.frames ∧ 8 + (maxL + 11) + rm.locals ≤ R.locals) (hz : rm.cells = 0 ∧ rm.slots = 0) (dd : decode cc pc = .ok (.invokestatic idx, 3)) (hp : pc + 3 = pc1) (hst : st = As.reverse ++ rest) (hW : (rest.map fun v => v.category).sum ≤ 8) (k : G p l e R s m args below meth c Q D A nL ws pc1 L rest) : G p l e R s m args below meth c Q D A nL ws pc L st := by
  subst hp
  intro H locs ls h1 h2 h3 h4
  refine va_callv (A1 := fun _ => False) (va_runS ⟨C.x, C.b, C.ml, C.own, C.ts⟩ hM ⟨callB_of n C.ts (TT_inc S.1) rfl hz.1 hz.2 (C.ts _ S.2.2.1) (C.ts _ hl) S.2.2.2 hR, C.ts _ S.2.1⟩ ⟨blindS, fun U hU hW => ⟨rfl, hX.go h3 hU hW (fun _ h => h.elim), Nst.warm hW C.n⟩⟩ rfl hn h4.1 hst (lv_room hW) dd ⟨by omega, by omega⟩) h3 (fun _ _ h => h.elim) (fun _ h => h.elim) (fun u t H1 locs1 ht hvm hw hB hz1 hk1 hS => ?_)
  exact k H1 locs1 ls (h1.kept (fun j q hq => hk1 q.1 (h1 j q hq).lt (fun h => h))) h2 hS h4
theorem g_callXI (C : Cx p s m args c cc nL own) {cs : Nat → ClassId} (hK : va_K D classes (tys cs) s) (hX : Sx adK adV A s s.heap) {y : MethodName} {bytes : ByteArray} {maxL idx b ci N : Nat} {T : u_T} {fs : List Value} {rt : Option FieldType} {rm : Room} {As : List Value} {r : Int32} {ws1 : va_W} (n : Nat) (hM : MtXI adK adV l y bytes maxL rt rm D cs A ws (.ref b :: As) r ws1) (S : VY y bytes maxL rt n) (hl : Cond.methodLink own idx y ∈ TT) (q0 : Nat) (he : ws[q0]? = some (b, .inr (ci, fs))) (hci : classes[ci]? = some (y.cls, T, N)) (hn : As.length = n) (hR : rm.frames + 1 ≤ R.frames ∧ 8 + (maxL + 11) + rm.locals ≤ R.locals) (hz : rm.cells = 0 ∧ rm.slots = 0) (d : decode cc pc = .ok (.invokevirtual idx, 3)) (hp : pc + 3 = pc1) (hst : st = As.reverse ++ .ref b :: rest) (hW : (rest.map fun v => v.category).sum ≤ 8) (k : G p l e R s m args below meth c Q D A nL ws1 pc1 L (.int r :: rest)) : G p l e R s m args below meth c Q D A nL ws pc L st := by
  subst hp
  intro H locs ls h1 h2 h3 h4
  refine va_calli (A1 := A) (va_runV ⟨C.x, C.b, C.ml, C.own, C.ts⟩ hM ⟨callB_of n C.ts (TT_inc S.1) rfl hz.1 hz.2 (C.ts _ S.2.2.2.1) (C.ts _ hl) S.2.2.2.2 hR, C.ts _ S.2.1, C.ts _ S.2.2.1⟩ ⟨blindX, va_recv hK h1 hci he, fun U hU hW => ⟨rfl, ⟨by rw [hU]; exact h1, va_K.moved hW.alike hK, Nst.warm hW C.n, h2⟩, hX.go h3 hU hW (fun _ h => h)⟩⟩ rfl hn h4.1 hst (lv_room hW) d ⟨by omega, by omega⟩) h3 (fun _ _ h => h) (fun _ h => h) (fun r1 u t H1 locs1 ht hvm hw hB hz1 hk1 hS => ?_)
  subst hw
  exact k H1 locs1 ls (ht ▸ hB.1) hB.2 hS h4
theorem g_callXV (C : Cx p s m args c cc nL own) {cs : Nat → ClassId} (hK : va_K D classes (tys cs) s) (hX : Sx adK adV A s s.heap) {y : MethodName} {bytes : ByteArray} {maxL idx b ci N : Nat} {T : u_T} {fs : List Value} {rt : Option FieldType} {rm : Room} {As : List Value} {ws1 : va_W} (n : Nat) (hM : MtXV adK adV l y bytes maxL rt rm D cs A ws (.ref b :: As) ws1) (S : VY y bytes maxL rt n) (hl : Cond.methodLink own idx y ∈ TT) (q0 : Nat) (he : ws[q0]? = some (b, .inr (ci, fs))) (hci : classes[ci]? = some (y.cls, T, N)) (hn : As.length = n) (hR : rm.frames + 1 ≤ R.frames ∧ 8 + (maxL + 11) + rm.locals ≤ R.locals) (hz : rm.cells = 0 ∧ rm.slots = 0) (d : decode cc pc = .ok (.invokevirtual idx, 3)) (hp : pc + 3 = pc1) (hst : st = As.reverse ++ .ref b :: rest) (hW : (rest.map fun v => v.category).sum ≤ 8) (k : G p l e R s m args below meth c Q D A nL ws1 pc1 L rest) : G p l e R s m args below meth c Q D A nL ws pc L st := by
  subst hp
  intro H locs ls h1 h2 h3 h4
  refine va_callv (A1 := A) (va_runV ⟨C.x, C.b, C.ml, C.own, C.ts⟩ hM ⟨callB_of n C.ts (TT_inc S.1) rfl hz.1 hz.2 (C.ts _ S.2.2.2.1) (C.ts _ hl) S.2.2.2.2 hR, C.ts _ S.2.1, C.ts _ S.2.2.1⟩ ⟨blindX, va_recv hK h1 hci he, fun U hU hW => ⟨rfl, ⟨by rw [hU]; exact h1, va_K.moved hW.alike hK, Nst.warm hW C.n, h2⟩, hX.go h3 hU hW (fun _ h => h)⟩⟩ rfl hn h4.1 hst (lv_room hW) d ⟨by omega, by omega⟩) h3 (fun _ _ h => h) (fun _ h => h) (fun u t H1 locs1 ht hvm hw hB hz1 hk1 hS => ?_)
  exact k H1 locs1 ls (ht ▸ hB.1) hB.2 hS h4
end XROWS
set_option maxHeartbeats 4000000 in
set_option maxRecDepth 100000 in
theorem c_JS_coder (l : Launch) (adK adV : Nat → Nat) (i : Nat) (hi : i < 6) : Met l y_JS_coder (.code y_JS_coder b_JS_coder 1 (some .byte) :: TT) { frames := 0, cells := 0, slots := 0, locals := 0 } (va_Pc [.ref (adK i)] (PcS adK adV)) (Qi (fun _ => False) (fun _ => 0, fun _ _ => 0) [] 0) 0 0 (fun _ => False) := by
  refine met_ofXS rfl (by decide +kernel) (Nat.le_of_ble_eq_true rfl) (fun p e s m below meth c C hX hr hlk => ?_)
  show G p l e { frames := 0, cells := 0, slots := 0, locals := 0 } s m _ below meth c _ (fun _ => 0, fun _ _ => 0) (fun _ => False) 1 [] 0 [(0, .ref (adK i))] []
  refine g_gets (pc1 := 3) C hX.1 kx_38 d_JS_coder_0 rfl ?_
  refine g_if_eq (pc1 := 6) C 13 d_JS_coder_3 rfl (by decide) (fun c1 => absurd c1 (by decide)) (fun c1 => ?_)
  refine g_aload_n (pc1 := 7) C d_JS_coder_6 rfl rfl 0 rfl ?_
  refine g_strf (pc1 := 10) C (hX.2.2.1.1 i hi).2.1 kx_15 d_JS_coder_7 rfl ?_
  refine g_goto C 14 d_JS_coder_10 (by decide) ?_
  exact g_zret C hr hlk rfl d_JS_coder_14 rfl rfl
set_option maxHeartbeats 4000000 in
set_option maxRecDepth 100000 in
theorem c_JS_length (l : Launch) (adK adV : Nat → Nat) (i : Nat) (hi : i < 6) : Met l y_JS_length (.code y_JS_length b_JS_length 1 (some .int) :: TT) { frames := 1, cells := 0, slots := 0, locals := 20 } (va_Pc [.ref (adK i)] (PcS adK adV)) (Qi (fun _ => False) (fun _ => 0, fun _ _ => 0) [] (Int32.ofNat (slen i))) 0 0 (fun _ => False) := by
  refine met_ofXS rfl (by decide +kernel) (Nat.le_of_ble_eq_true rfl) (fun p e s m below meth c C hX hr hlk => ?_)
  show G p l e { frames := 1, cells := 0, slots := 0, locals := 20 } s m _ below meth c _ (fun _ => 0, fun _ _ => 0) (fun _ => False) 1 [] 0 [(0, .ref (adK i))] []
  refine g_aload_n (pc1 := 1) C d_JS_length_0 rfl rfl 0 rfl ?_
  refine g_strf (pc1 := 4) C (hX.2.2.1.1 i hi).2.2.1 kx_9 d_JS_length_1 rfl ?_
  refine g_tlen (pc1 := 5) C (hX.2.2.1.1 i hi).2.2.2 rfl d_JS_length_4 rfl ?_
  refine g_aload_n (pc1 := 6) C d_JS_length_5 rfl rfl 0 rfl ?_
  refine g_callStr (pc1 := 9) (As := []) (rest := [.int (Int32.ofNat (slen i))]) C hX hi 0 (c_JS_coder l adK adV i hi) s_JS_coder rfl kx_335 rfl ⟨Nat.le_of_ble_eq_true rfl, Nat.le_of_ble_eq_true rfl⟩ ⟨rfl, rfl⟩ d_JS_length_6 rfl rfl (Nat.le_of_ble_eq_true rfl) ?_
  refine g_ishr (pc1 := 10) C d_JS_length_9 rfl ?_
  refine g_iret C hr hlk d_JS_length_10 ?_ rfl
  rcases (show i = 0 ∨ i = 1 ∨ i = 2 ∨ i = 3 ∨ i = 4 ∨ i = 5 by omega) with rfl | rfl | rfl | rfl | rfl | rfl <;> decide
set_option maxHeartbeats 4000000 in
set_option maxRecDepth 100000 in
theorem c_JS_isLatin1 (l : Launch) (adK adV : Nat → Nat) (i : Nat) (hi : i < 6) : Met l y_JS_isLatin1 (.code y_JS_isLatin1 b_JS_isLatin1 1 (some .boolean) :: TT) { frames := 0, cells := 0, slots := 0, locals := 0 } (va_Pc [.ref (adK i)] (PcS adK adV)) (Qi (fun _ => False) (fun _ => 0, fun _ _ => 0) [] 1) 0 0 (fun _ => False) := by
  refine met_ofXS rfl (by decide +kernel) (Nat.le_of_ble_eq_true rfl) (fun p e s m below meth c C hX hr hlk => ?_)
  show G p l e { frames := 0, cells := 0, slots := 0, locals := 0 } s m _ below meth c _ (fun _ => 0, fun _ _ => 0) (fun _ => False) 1 [] 0 [(0, .ref (adK i))] []
  refine g_gets (pc1 := 3) C hX.1 kx_38 d_JS_isLatin1_0 rfl ?_
  refine g_if_eq (pc1 := 6) C 17 d_JS_isLatin1_3 rfl (by decide) (fun c1 => absurd c1 (by decide)) (fun c1 => ?_)
  refine g_aload_n (pc1 := 7) C d_JS_isLatin1_6 rfl rfl 0 rfl ?_
  refine g_strf (pc1 := 10) C (hX.2.2.1.1 i hi).2.1 kx_15 d_JS_isLatin1_7 rfl ?_
  refine g_if_ne (pc1 := 13) C 17 d_JS_isLatin1_10 rfl (by decide) (fun c1 => absurd rfl c1) (fun c1 => ?_)
  refine g_iconst (pc1 := 14) (v := 1) C d_JS_isLatin1_13 rfl ic_1 ?_
  refine g_goto C 18 d_JS_isLatin1_14 (by decide) ?_
  exact g_zret C hr hlk rfl d_JS_isLatin1_18 rfl rfl
set_option maxHeartbeats 4000000 in
set_option maxRecDepth 100000 in
theorem c_JP_checkIndexN (l : Launch) (adK adV : Nat → Nat) (j n : Int32) (h0 : ¬ j < 0) (h1 : j < n) : Met l y_JP_checkIndex (.code y_JP_checkIndex b_JP_checkIndex 3 (some .int) :: TT) { frames := 0, cells := 0, slots := 0, locals := 0 } (va_Pc [.int j, .int n, .null] (PcS adK adV)) (Qi (fun _ => False) (fun _ => 0, fun _ _ => 0) [] j) 0 0 (fun _ => False) := by
  refine met_ofXS rfl (by decide +kernel) (Nat.le_of_ble_eq_true rfl) (fun p e s m below meth c C hX hr hlk => ?_)
  show G p l e { frames := 0, cells := 0, slots := 0, locals := 0 } s m _ below meth c _ (fun _ => 0, fun _ _ => 0) (fun _ => False) 3 [] 0 [(0, .int j), (1, .int n), (2, .null)] []
  refine g_iload_n (pc1 := 1) C d_JP_checkIndex_0 rfl rfl 0 rfl ?_
  refine g_if_lt (pc1 := 4) C 9 d_JP_checkIndex_1 rfl (by decide) (fun c1 => absurd c1 h0) (fun c1 => ?_)
  refine g_iload_n (pc1 := 5) C d_JP_checkIndex_4 rfl rfl 0 rfl ?_
  refine g_iload_n (pc1 := 6) C d_JP_checkIndex_5 rfl rfl 1 rfl ?_
  refine g_icmp_lt (pc1 := 9) C 16 d_JP_checkIndex_6 rfl (by decide) (fun c1 => ?_) (fun c1 => absurd h1 c1)
  refine g_iload_n (pc1 := 17) C d_JP_checkIndex_16 rfl rfl 0 rfl ?_
  exact g_iret C hr hlk d_JP_checkIndex_17 rfl rfl
set_option maxHeartbeats 4000000 in
set_option maxRecDepth 100000 in
theorem c_JP_checkIndexR (l : Launch) (adK adV : Nat → Nat) (j n : Int32) (h0 : ¬ j < 0) (h1 : j < n) (t : Nat) : Met l y_JP_checkIndex (.code y_JP_checkIndex b_JP_checkIndex 3 (some .int) :: TT) { frames := 0, cells := 0, slots := 0, locals := 0 } (va_Pc [.int j, .int n, .ref t] (PcS adK adV)) (Qi (fun _ => False) (fun _ => 0, fun _ _ => 0) [] j) 0 0 (fun _ => False) := by
  refine met_ofXS rfl (by decide +kernel) (Nat.le_of_ble_eq_true rfl) (fun p e s m below meth c C hX hr hlk => ?_)
  show G p l e { frames := 0, cells := 0, slots := 0, locals := 0 } s m _ below meth c _ (fun _ => 0, fun _ _ => 0) (fun _ => False) 3 [] 0 [(0, .int j), (1, .int n), (2, .ref t)] []
  refine g_iload_n (pc1 := 1) C d_JP_checkIndex_0 rfl rfl 0 rfl ?_
  refine g_if_lt (pc1 := 4) C 9 d_JP_checkIndex_1 rfl (by decide) (fun c1 => absurd c1 h0) (fun c1 => ?_)
  refine g_iload_n (pc1 := 5) C d_JP_checkIndex_4 rfl rfl 0 rfl ?_
  refine g_iload_n (pc1 := 6) C d_JP_checkIndex_5 rfl rfl 1 rfl ?_
  refine g_icmp_lt (pc1 := 9) C 16 d_JP_checkIndex_6 rfl (by decide) (fun c1 => ?_) (fun c1 => absurd h1 c1)
  refine g_iload_n (pc1 := 17) C d_JP_checkIndex_16 rfl rfl 0 rfl ?_
  exact g_iret C hr hlk d_JP_checkIndex_17 rfl rfl
set_option maxHeartbeats 4000000 in
set_option maxRecDepth 100000 in
theorem c_JS_checkIndex (l : Launch) (adK adV : Nat → Nat) (j n : Int32) (h0 : ¬ j < 0) (h1 : j < n) : Met l y_JS_checkIndex (.code y_JS_checkIndex b_JS_checkIndex 2 none :: TT) { frames := 1, cells := 0, slots := 0, locals := 22 } (va_Pc [.int j, .int n] (PcS adK adV)) (Qv (fun _ => False) (fun _ => 0, fun _ _ => 0) []) 0 0 (fun _ => False) := by
  refine met_ofXS rfl (by decide +kernel) (Nat.le_of_ble_eq_true rfl) (fun p e s m below meth c C hX hr hlk => ?_)
  show G p l e { frames := 1, cells := 0, slots := 0, locals := 22 } s m _ below meth c _ (fun _ => 0, fun _ _ => 0) (fun _ => False) 2 [] 0 [(0, .int j), (1, .int n)] []
  refine g_iload_n (pc1 := 1) C d_JS_checkIndex_0 rfl rfl 0 rfl ?_
  refine g_iload_n (pc1 := 2) C d_JS_checkIndex_1 rfl rfl 1 rfl ?_
  rcases hX.2.1 with hz | ⟨t, hz⟩
  · refine g_gets (pc1 := 5) C hz kx_1053 d_JS_checkIndex_2 rfl ?_
    refine g_callXSI (pc1 := 8) (As := [.int j, .int n, .null]) (rest := []) C hX 3 (c_JP_checkIndexN l adK adV j n h0 h1) s_JP_checkIndex kx_1059 rfl ⟨Nat.le_of_ble_eq_true rfl, Nat.le_of_ble_eq_true rfl⟩ ⟨rfl, rfl⟩ d_JS_checkIndex_5 rfl rfl (Nat.le_of_ble_eq_true rfl) ?_
    refine g_pop (pc1 := 9) C d_JS_checkIndex_8 rfl rfl ?_
    exact g_vret C hr hlk d_JS_checkIndex_9 rfl
  · refine g_gets (pc1 := 5) C hz kx_1053 d_JS_checkIndex_2 rfl ?_
    refine g_callXSI (pc1 := 8) (As := [.int j, .int n, .ref t]) (rest := []) C hX 3 (c_JP_checkIndexR l adK adV j n h0 h1 t) s_JP_checkIndex kx_1059 rfl ⟨Nat.le_of_ble_eq_true rfl, Nat.le_of_ble_eq_true rfl⟩ ⟨rfl, rfl⟩ d_JS_checkIndex_5 rfl rfl (Nat.le_of_ble_eq_true rfl) ?_
    refine g_pop (pc1 := 9) C d_JS_checkIndex_8 rfl rfl ?_
    exact g_vret C hr hlk d_JS_checkIndex_9 rfl
theorem inb_lt {j : Int32} {n : Nat} (h : inb j n = true) (hn : n < 2 ^ 31) : ¬ j < 0 ∧ j < Int32.ofNat n := by
  have h1 := inb_in h
  have h2 : ¬ j < 0 := fun q => h1 (Or.inl q)
  have h3 : j.toNatClampNeg < n := Nat.not_le.mp fun q => h1 (Or.inr q)
  refine ⟨h2, ?_⟩
  rw [Int32.lt_iff_toInt_lt, show (Int32.ofNat n).toInt = (n : Int) from toInt_of rfl hn]
  have h4 : j.toInt.toNat < n := h3
  omega
set_option maxHeartbeats 4000000 in
set_option maxRecDepth 100000 in
theorem c_JL_charAt (l : Launch) (adK adV : Nat → Nat) (i : Nat) (hi : i < 6) (j : Int32) (hj : inb j (slen i) = true) : Met l y_JL_charAt (.code y_JL_charAt b_JL_charAt 2 (some .char) :: TT) { frames := 2, cells := 0, slots := 0, locals := 43 } (va_Pc [.ref (adV i), .int j] (PcS adK adV)) (Qi (fun _ => False) (fun _ => 0, fun _ _ => 0) [] ((schr i j.toNatClampNeg &&& 255).toUInt32 % 65536).toInt32) 0 0 (fun _ => False) := by
  refine met_ofXS rfl (by decide +kernel) (Nat.le_of_ble_eq_true rfl) (fun p e s m below meth c C hX hr hlk => ?_)
  show G p l e { frames := 2, cells := 0, slots := 0, locals := 43 } s m _ below meth c _ (fun _ => 0, fun _ _ => 0) (fun _ => False) 2 [] 0 [(0, .ref (adV i)), (1, .int j)] []
  have hs : slen i < 2 ^ 31 := by
    rcases (show i = 0 ∨ i = 1 ∨ i = 2 ∨ i = 3 ∨ i = 4 ∨ i = 5 by omega) with rfl | rfl | rfl | rfl | rfl | rfl <;> decide
  have hq := inb_lt hj hs
  refine g_iload_n (pc1 := 1) C d_JL_charAt_0 rfl rfl 1 rfl ?_
  refine g_aload_n (pc1 := 2) C d_JL_charAt_1 rfl rfl 0 rfl ?_
  refine g_tlen (pc1 := 3) C (hX.2.2.1.1 i hi).2.2.2 rfl d_JL_charAt_2 rfl ?_
  refine g_callXSV (pc1 := 6) (As := [.int j, .int (Int32.ofNat (slen i))]) (rest := []) C hX 2 (c_JS_checkIndex l adK adV j (Int32.ofNat (slen i)) hq.1 hq.2) s_JS_checkIndex kx_L9 rfl ⟨Nat.le_of_ble_eq_true rfl, Nat.le_of_ble_eq_true rfl⟩ ⟨rfl, rfl⟩ d_JL_charAt_3 rfl rfl (Nat.le_of_ble_eq_true rfl) ?_
  refine g_aload_n (pc1 := 7) C d_JL_charAt_6 rfl rfl 0 rfl ?_
  refine g_iload_n (pc1 := 8) C d_JL_charAt_7 rfl rfl 1 rfl ?_
  refine g_tb (pc1 := 9) C (hX.2.2.1.1 i hi).2.2.2 hj rfl d_JL_charAt_8 rfl ?_
  refine g_sipush (pc1 := 12) (v := 255) C d_JL_charAt_9 rfl (by decide) ?_
  refine g_iand (pc1 := 13) C d_JL_charAt_12 rfl ?_
  refine g_i2c (pc1 := 14) C d_JL_charAt_13 rfl ?_
  refine g_zret C hr hlk ?_ d_JL_charAt_14 rfl rfl
  have hj2 : j.toNatClampNeg < slen i := Nat.not_le.mp fun q => inb_in hj (Or.inr q)
  show narrow .char (.int ((schr i j.toNatClampNeg &&& 255).toUInt32 % 65536).toInt32) = .int ((schr i j.toNatClampNeg &&& 255).toUInt32 % 65536).toInt32
  generalize j.toNatClampNeg = z at hj2
  have hb : slen i ≤ 4 := by
    rcases (show i = 0 ∨ i = 1 ∨ i = 2 ∨ i = 3 ∨ i = 4 ∨ i = 5 by omega) with rfl | rfl | rfl | rfl | rfl | rfl <;> decide
  rcases (show i = 0 ∨ i = 1 ∨ i = 2 ∨ i = 3 ∨ i = 4 ∨ i = 5 by omega) with rfl | rfl | rfl | rfl | rfl | rfl <;> rcases (show z = 0 ∨ z = 1 ∨ z = 2 ∨ z = 3 by omega) with rfl | rfl | rfl | rfl <;> rfl
set_option maxHeartbeats 4000000 in
set_option maxRecDepth 100000 in
theorem c_JS_charAt (l : Launch) (adK adV : Nat → Nat) (i : Nat) (hi : i < 6) (j : Int32) (hj : inb j (slen i) = true) : Met l y_JS_charAt (.code y_JS_charAt b_JS_charAt 2 (some .char) :: TT) { frames := 3, cells := 0, slots := 0, locals := 64 } (va_Pc [.ref (adK i), .int j] (PcS adK adV)) (Qi (fun _ => False) (fun _ => 0, fun _ _ => 0) [] ((schr i j.toNatClampNeg &&& 255).toUInt32 % 65536).toInt32) 0 0 (fun _ => False) := by
  refine met_ofXS rfl (by decide +kernel) (Nat.le_of_ble_eq_true rfl) (fun p e s m below meth c C hX hr hlk => ?_)
  show G p l e { frames := 3, cells := 0, slots := 0, locals := 64 } s m _ below meth c _ (fun _ => 0, fun _ _ => 0) (fun _ => False) 2 [] 0 [(0, .ref (adK i)), (1, .int j)] []
  refine g_aload_n (pc1 := 1) C d_JS_charAt_0 rfl rfl 0 rfl ?_
  refine g_callStr (pc1 := 4) (As := []) (rest := []) C hX hi 0 (c_JS_isLatin1 l adK adV i hi) s_JS_isLatin1 rfl kx_492 rfl ⟨Nat.le_of_ble_eq_true rfl, Nat.le_of_ble_eq_true rfl⟩ ⟨rfl, rfl⟩ d_JS_charAt_1 rfl rfl (Nat.le_of_ble_eq_true rfl) ?_
  refine g_if_eq (pc1 := 7) C 16 d_JS_charAt_4 rfl (by decide) (fun c1 => absurd c1 (by decide)) (fun c1 => ?_)
  refine g_aload_n (pc1 := 8) C d_JS_charAt_7 rfl rfl 0 rfl ?_
  refine g_strf (pc1 := 11) C (hX.2.2.1.1 i hi).2.2.1 kx_9 d_JS_charAt_8 rfl ?_
  refine g_iload_n (pc1 := 12) C d_JS_charAt_11 rfl rfl 1 rfl ?_
  refine g_callXSI (pc1 := 15) (As := [.ref (adV i), .int j]) (rest := []) C hX 2 (c_JL_charAt l adK adV i hi j hj) s_JL_charAt kx_495 rfl ⟨Nat.le_of_ble_eq_true rfl, Nat.le_of_ble_eq_true rfl⟩ ⟨rfl, rfl⟩ d_JS_charAt_12 rfl rfl (Nat.le_of_ble_eq_true rfl) ?_
  have hj2 : j.toNatClampNeg < slen i := Nat.not_le.mp fun q => inb_in hj (Or.inr q)
  refine g_zret C hr hlk ?_ d_JS_charAt_15 rfl rfl
  show narrow .char (.int ((schr i j.toNatClampNeg &&& 255).toUInt32 % 65536).toInt32) = .int ((schr i j.toNatClampNeg &&& 255).toUInt32 % 65536).toInt32
  generalize j.toNatClampNeg = z at hj2
  have hb : slen i ≤ 4 := by
    rcases (show i = 0 ∨ i = 1 ∨ i = 2 ∨ i = 3 ∨ i = 4 ∨ i = 5 by omega) with rfl | rfl | rfl | rfl | rfl | rfl <;> decide
  rcases (show i = 0 ∨ i = 1 ∨ i = 2 ∨ i = 3 ∨ i = 4 ∨ i = 5 by omega) with rfl | rfl | rfl | rfl | rfl | rfl <;> rcases (show z = 0 ∨ z = 1 ∨ z = 2 ∨ z = 3 by omega) with rfl | rfl | rfl | rfl <;> rfl
