/-! THE CLAIM OUT OF ONE WALK OF THE LAW'S BODY. Your part is whole_start (and what it stands on); all else here is the same for every law, but numbers. -/
def R_law : String := "TentPegsLaw"
def lw_P (b : Addr) (xs : List Int32) (args : Array Value) (s : State) : Prop := args = #[.ref b] ∧ s.IntsAt b xs ∧ xs.length ≤ 320 ∧ (Jvm.Cond.and given_1 narrow_1).before args s = true
def lw_Q (_ : Array Value) (s : State) (o : Outcome) (t : State) : Prop := o = .returned (some (.int 1)) ∧ Framed s o t [] 47 1521
def lw_Z (below : List Frame) (a : Array Value) (s : State) : State → Prop := fun t => ∃ o, t.status = .running ∧ Ended t below o ∧ lw_Q a s o t
/-- the law's own end, with 1 on the stack, nothing written that was there before, its room as the claim has it -/
theorem lw_ret {p : Program} {l : Launch} {e : Env} {s : State} {m : MethodId} {below : List Frame} {meth : Method} {c : Code} {b : Nat} (hx : p.tables.exec = Jvm.exec) (hb : c.code = code) (hr : meth.sig.returnType = ret) (hlocks : meth.locks = false) {pc : Nat} {H : Heap} {ls : Array Slot} (hdg : decode code pc = .ok (.ireturn, 1)) : W p l e room_1 s m #[Value.ref b] below meth c H [] 47 1521 (lw_Z below #[Value.ref b] s) (F0 m pc ls [.int 1]) := by
  intro T hT X
  obtain ⟨fs, hret, hrun, hended, hW, hframe⟩ := X.leave (v := some (.int 1)) (hlocks := hlocks) (fun h => by rw [hr] at h; cases h)
  have hmeth' : T.vm.method? m = some meth := X.method'
  refine ⟨T.setFrames fs, ?_, .returned (some (.int 1)), hrun, hended, rfl, ⟨_, rfl⟩, hW, hframe⟩
  jvm_step X.here [X.here.top, hx, hb, hdg, hmeth', hr, ret, narrow_b1]
  (try refine ⟨rfl, ?_⟩); (try refine ⟨rfl, ?_⟩)
  first | (intro acts; rw [hret _ acts rfl rfl rfl]) | rw [hret _ _ rfl rfl rfl]
  exact Steps.refl _
/-- what holds at the law's entry: the machine, the code, the tables' words (any of lw_tbl by 'hts w (by decide +kernel)'), the script of L ints xs at the cell b, what the Statement gives of the start (any of its parts by flat_of_before) -/
def lw_At (p : Program) (s : State) (m : MethodId) (meth : Method) (c : Code) (b L : Nat) (xs : Nat → Int32) : Prop :=
  p.tables.exec = Jvm.exec ∧ c.code = code ∧ meth.sig.returnType = ret ∧ c.maxLocals = 4 ∧ s.vm.findClass R_law = some m.cls ∧ (∀ w ∈ lw_tbl, w.before #[Value.ref b] s = true) ∧ va_X b L xs s s.heap ∧ b < s.heap.size ∧ meth.locks = false ∧ (Jvm.Cond.and given_1 narrow_1).before #[Value.ref b] s = true

theorem lz_int : Cond.arrayClass .int ∈ lw_tbl := List.mem_of_getElem? (i := 161) (by decide +kernel)
theorem lz_byte : Cond.arrayClass .byte ∈ lw_tbl := List.mem_of_getElem? (i := 275) (by decide +kernel)
theorem lz_bool : Cond.arrayClass .boolean ∈ lw_tbl := List.mem_of_getElem? (i := 317) (by decide +kernel)
theorem lz_over : Cond.arrayOver (.object "TentPegs$Field") ∈ lw_tbl := List.mem_of_getElem? (i := 276) (by decide +kernel)
theorem lz_cs : Cond.laysStatic "java/lang/String" "COMPACT_STRINGS" "Z" ∈ lw_tbl := List.mem_of_getElem? (i := 444) (by decide +kernel)
theorem lz_sf : Cond.laysStatic "jdk/internal/util/Preconditions" "SIOOBE_FORMATTER" SzN ∈ lw_tbl := List.mem_of_getElem? (i := 460) (by decide +kernel)
theorem lz_is : Cond.initialized "java/lang/String" ∈ lw_tbl := List.mem_of_getElem? (i := 79) (by decide +kernel)
theorem lz_ip : Cond.initialized "jdk/internal/util/Preconditions" ∈ lw_tbl := List.mem_of_getElem? (i := 81) (by decide +kernel)
theorem lz_s0 : Cond.stringRef "TentPegs$Reader" 159 "tent" ∈ lw_tbl := List.mem_of_getElem? (i := 430) (by decide +kernel)
theorem lz_s1 : Cond.stringRef "TentPegs$Reader" 165 "peg" ∈ lw_tbl := List.mem_of_getElem? (i := 483) (by decide +kernel)
theorem lz_s2 : Cond.stringRef "TentPegs$Reader" 167 "wet" ∈ lw_tbl := List.mem_of_getElem? (i := 484) (by decide +kernel)
theorem lz_s3 : Cond.stringRef "TentPegs$Reader" 169 "wall" ∈ lw_tbl := List.mem_of_getElem? (i := 485) (by decide +kernel)
theorem lz_s4 : Cond.stringRef "TentPegs$Reader" 171 "odds" ∈ lw_tbl := List.mem_of_getElem? (i := 486) (by decide +kernel)
theorem lz_s5 : Cond.stringRef "TentPegs$Reader" 173 "gone" ∈ lw_tbl := List.mem_of_getElem? (i := 487) (by decide +kernel)
theorem lz_iF : Cond.instantiable R_F 10 ∈ lw_tbl := List.mem_of_getElem? (i := 94) (by decide +kernel)
theorem lz_iG : Cond.instantiable R_G 8 ∈ lw_tbl := List.mem_of_getElem? (i := 163) (by decide +kernel)
theorem lz_iP : Cond.instantiable R_P 6 ∈ lw_tbl := List.mem_of_getElem? (i := 203) (by decide +kernel)
theorem lz_iR : Cond.instantiable R_R 11 ∈ lw_tbl := List.mem_of_getElem? (i := 230) (by decide +kernel)
theorem lz_iT : Cond.instantiable R_T 13 ∈ lw_tbl := List.mem_of_getElem? (i := 86) (by decide +kernel)
theorem lz_iM : Cond.instantiable R_M 22 ∈ lw_tbl := List.mem_of_getElem? (i := 884) (by decide +kernel)
theorem nn_in : ∀ q ∈ NNl, Cond.methodLinkNest q.1 q.2.1 q.2.2.1 q.2.2.2 ∈ lw_tbl := by
  have h : NNl.all (fun q => decide (Cond.methodLinkNest q.1 q.2.1 q.2.2.1 q.2.2.2 ∈ lw_tbl)) = true := by decide +kernel
  intro q hq
  exact of_decide_eq_true (List.all_eq_true.mp h q hq)
/-- what the Statement gives, cut flat -/
def nw_l : List Cond := flatC (Jvm.Cond.and given_1 narrow_1)
def tmS (i : Nat) : Term := .string "TentPegs$Reader" (st_idx.getD i 0)
theorem nw_ex : ∀ i, i < 6 → Cond.exactly (tmS i) "java/lang/String" ∈ nw_l := by decide +kernel
theorem nw_co : ∀ i, i < 6 → Cond.eq (.field (tmS i) "java/lang/String" "coder" "B") (.int 0) ∈ nw_l := by decide +kernel
theorem nw_ar : ∀ i, i < 6 → Cond.arrayOf (.field (tmS i) "java/lang/String" "value" "[B") .byte ∈ nw_l := by decide +kernel
theorem nw_le : ∀ i, i < 6 → Cond.eq (.length (.field (tmS i) "java/lang/String" "value" "[B")) (.int (Int32.ofNat (st_len.getD i 0))) ∈ nw_l := by decide +kernel
theorem nw_el : ∀ i, i < 6 → ∀ j, j < st_len.getD i 0 → Cond.eq (.elem (.field (tmS i) "java/lang/String" "value" "[B") (.int (Int32.ofNat j))) (.int ((st_byt.getD i []).getD j 0)) ∈ nw_l := by decide +kernel
theorem nw_ne : ∀ i, i < 6 → ∀ j, j < 6 → i ≠ j → (Cond.not (Cond.eq (tmS i) (tmS j)) ∈ nw_l ∨ Cond.not (Cond.eq (tmS j) (tmS i)) ∈ nw_l) := by decide +kernel
theorem nw_cs : Cond.eq (.static "java/lang/String" "COMPACT_STRINGS" "Z") (.int 1) ∈ nw_l := by decide +kernel
theorem nw_sf : Cond.isRef (.static "jdk/internal/util/Preconditions" "SIOOBE_FORMATTER" SzN) ∈ nw_l := by decide +kernel
theorem ks_0 : Cond.classLink "TentPegsLaw" 7 "TentPegs" ∈ TT := tm 85 (by decide +kernel) (by decide +kernel)
theorem ks_1 : Cond.instantiable "TentPegs" 13 ∈ TT := tm 86 (by decide +kernel) (by decide +kernel)
theorem ks_2 : Cond.initialized "TentPegs" ∈ TT := tm 72 (by decide +kernel) (by decide +kernel)
theorem ks_3 : Cond.classLink "TentPegsLaw" 10 "TentPegsModel" ∈ TT := tm 883 (by decide +kernel) (by decide +kernel)
theorem ks_4 : Cond.instantiable "TentPegsModel" 22 ∈ TT := tm 884 (by decide +kernel) (by decide +kernel)
theorem ks_5 : Cond.initialized "TentPegsModel" ∈ TT := tm 77 (by decide +kernel) (by decide +kernel)
theorem ks_6 : Cond.code y_T_init b_T_init 1 none ∈ TT := tm 89 (by decide +kernel) (by decide +kernel)
theorem ks_7 : Cond.instanceMethod y_T_init ∈ TT := tm 88 (by decide +kernel) (by decide +kernel)
theorem ks_8 : Cond.methodLink "TentPegsLaw" 9 y_T_init ∈ TT := tm 87 (by decide +kernel) (by decide +kernel)
theorem ks_9 : Cond.code y_M_init b_M_init 1 none ∈ TT := tm 887 (by decide +kernel) (by decide +kernel)
theorem ks_10 : Cond.instanceMethod y_M_init ∈ TT := tm 886 (by decide +kernel) (by decide +kernel)
theorem ks_11 : Cond.methodLink "TentPegsLaw" 12 y_M_init ∈ TT := tm 885 (by decide +kernel) (by decide +kernel)
set_option maxHeartbeats 4000000 in
set_option maxRecDepth 100000 in
theorem whole_start {p : Program} {e : Env} {s : State} {m : MethodId} {below : List Frame} {meth : Method} {c : Code} (l : Launch) (hflags : l.flags = flags0) {b L : Nat} {xs : Nat → Int32} (hL : L ≤ 320) (C0 : lw_At p s m meth c b L xs) : W p l e room_1 s m #[Value.ref b] below meth c s.heap [] 0 0 (lw_Z below #[Value.ref b] s) (entryFrame m ([Value.ref b] : List Value).toArray 4) := by
  obtain ⟨hx, hb, hr, hml, hown, hts, hX, hbl, hlocks, hgv⟩ := id C0
  have hA : ∀ q : Nat, s.heap.size ≤ q → (fun q : Nat => s.heap.size ≤ q) q := fun _ h => h
  have hbA : ¬ (fun q : Nat => s.heap.size ≤ q) b := Nat.not_le.mpr hbl
  have hAs : ∀ a : Nat, a < s.heap.size → ¬ (fun q : Nat => s.heap.size ≤ q) a := fun a h => Nat.not_le.mpr h
  have hT : ∀ w ∈ TT, w.before #[Value.ref b] s = true := fun w h => hts w (TT_lw w h)
  have hN : Nst s := fun q hq => va_Nw.of rfl (hts _ (nn_in q hq))
  have C : Cx p s m #[Value.ref b] c code 4 "TentPegsLaw" := ⟨hx, hb, hml, hown, hT, hN⟩
  have hs := flat_of_before _ hgv
  -- the classes
  obtain ⟨c0, i0, k0⟩ := u_known (C := R_F) (T := T_F) (N := 10) (n := 10) hT in_F (hts _ lz_iF)
  obtain ⟨c1, i1, k1⟩ := u_known (C := R_G) (T := T_G) (N := 8) (n := 8) hT in_G (hts _ lz_iG)
  obtain ⟨c2, i2, k2⟩ := u_known (C := R_P) (T := T_P) (N := 6) (n := 6) hT in_P (hts _ lz_iP)
  obtain ⟨c3, i3, k3⟩ := u_known (C := R_R) (T := T_R) (N := 11) (n := 11) hT in_R (hts _ lz_iR)
  obtain ⟨c4, i4, k4⟩ := u_known (C := R_T) (T := T_T) (N := 13) (n := 13) hT in_T (hts _ lz_iT)
  obtain ⟨c5, i5, k5⟩ := u_known (C := R_M) (T := T_M) (N := 22) (n := 22) hT in_M (hts _ lz_iM)
  obtain ⟨D, hKc⟩ : ∃ (D : va_G), ∀ (k : Nat) (q : vw_C), classes[k]? = some q → u_Kn s q.1 q.2.1 q.2.2 (D.1 k) (D.2 k) := by
    refine ⟨(fun k => match k with | 0 => c0 | 1 => c1 | 2 => c2 | 3 => c3 | 4 => c4 | _ => c5, fun k => match k with | 0 => i0 | 1 => i1 | 2 => i2 | 3 => i3 | 4 => i4 | _ => i5), ?_⟩
    intro k q hq
    match k, hq with
    | 0, hq => cases hq; exact k0
    | 1, hq => cases hq; exact k1
    | 2, hq => cases hq; exact k2
    | 3, hq => cases hq; exact k3
    | 4, hq => cases hq; exact k4
    | 5, hq => cases hq; exact k5
    | k + 6, hq => simp [classes] at hq
  -- the array classes
  obtain ⟨a0, ka0, co0, f01, f02, f03⟩ := Cond.arrayClass_spec (hts _ lz_int)
  obtain ⟨a1, ka1, co1, f11, f12, f13⟩ := Cond.arrayClass_spec (hts _ lz_byte)
  obtain ⟨a2, ka2, co2, f21, f22, f23⟩ := Cond.arrayClass_spec (hts _ lz_bool)
  obtain ⟨co3, a3, ka3, f31, -, f32, f33, f34⟩ := Cond.arrayOver_spec (hts _ lz_over)
  obtain ⟨cs, hcs⟩ : ∃ cs : Nat → ClassId, cs 0 = a0 ∧ cs 1 = a1 ∧ cs 2 = a2 ∧ cs 3 = a3 := ⟨fun k => match k with | 0 => a0 | 1 => a1 | 2 => a2 | _ => a3, rfl, rfl, rfl, rfl⟩
  have hK : va_K D classes (tys cs) s := by
    refine ⟨hKc, fun k q hq => ?_⟩
    match k, hq with
    | 0, hq => cases hq; rw [hcs.1]; exact ⟨fun n z => ⟨fun k h => (by cases h), ka0, f02, co0, f03⟩, f01⟩
    | 1, hq => cases hq; rw [hcs.2.1]; exact ⟨fun n z => ⟨fun k h => (by cases h), ka1, f12, co1, f13⟩, f11⟩
    | 2, hq => cases hq; rw [hcs.2.2.1]; exact ⟨fun n z => ⟨fun k h => (by cases h), ka2, f22, co2, f23⟩, f21⟩
    | 3, hq => cases hq; rw [hcs.2.2.2]; exact ⟨fun n z => ⟨fun k h => (by cases h), ka3, f32, co3, f33⟩, ka3, co3, f32, f33, f31, f34⟩
    | k + 4, hq => simp [tys] at hq
  -- the strings
  obtain ⟨adK, adV, hSt, hSt2⟩ := vk_Sof (N := 6) (tm := tmS) (len := st_len) (byt := st_byt) (A := fun q : Nat => s.heap.size ≤ q) (by decide) (fun i hi => hs _ (nw_ex i hi)) (fun i hi => hs _ (nw_co i hi)) (fun i hi => hs _ (nw_ar i hi)) (fun i hi => hs _ (nw_le i hi)) (fun i hi j hj => hs _ (nw_el i hi j hj)) (fun i j hi hj hij => (nw_ne i hi j hj hij).elim (fun h => Or.inl (hs _ h)) (fun h => Or.inr (hs _ h))) hAs
  have hSx : Sx adK adV (fun q : Nat => s.heap.size ≤ q) s s.heap := by
    refine ⟨va_Zof (hts _ lz_cs) (hts _ lz_is) (va_eqi (hs _ nw_cs)) hAs, va_Zqof (hts _ lz_sf) (hts _ lz_ip) (hs _ nw_sf) hAs, hSt, fun i hi => ?_⟩
    have h9 := hSt2 i hi
    rcases (show i = 0 ∨ i = 1 ∨ i = 2 ∨ i = 3 ∨ i = 4 ∨ i = 5 by omega) with rfl | rfl | rfl | rfl | rfl | rfl
    · exact vk_R.of (hts _ lz_s0) h9
    · exact vk_R.of (hts _ lz_s1) h9
    · exact vk_R.of (hts _ lz_s2) h9
    · exact vk_R.of (hts _ lz_s3) h9
    · exact vk_R.of (hts _ lz_s4) h9
    · exact vk_R.of (hts _ lz_s5) h9
  have hAO : va_AO "TentPegs$Field" s := va_AO.of (hts _ lz_over)
  obtain ⟨φ0, ψ0, hφ, hψ, hRel⟩ := rel_init
  have hl := lv_entry ([.ref b]) (n := 4) (Nat.le_of_ble_eq_true rfl)
  rw [lg_entry_eq]
  refine (show GA p l e room_1 s m #[Value.ref b] below meth c (lw_Z below #[Value.ref b] s) D (fun q : Nat => s.heap.size ≤ q) 4 0 0 [] 0 [(0, .ref b)] [] from ?_) s.heap [] _ (fun k q h => by simp at h) ⟨fun i j p q h => by simp at h, fun k q h => by simp at h⟩ va_S.rf hl
  refine a_new (pc1 := 3) (fs := [.null, .null, .null, .null, .null, .null, .null, .int 0, .int 0, .int 0, .int 0, .int 0, .int 0]) (ci := 4) C hK in_T ty_T ok_T ks_0 ks_1 ks_2 hA rfl (fun j hj => by rcases (show j = 0 ∨ j = 1 ∨ j = 2 ∨ j = 3 ∨ j = 4 ∨ j = 5 ∨ j = 6 ∨ j = 7 ∨ j = 8 ∨ j = 9 ∨ j = 10 ∨ j = 11 ∨ j = 12 by omega) with rfl | rfl | rfl | rfl | rfl | rfl | rfl | rfl | rfl | rfl | rfl | rfl | rfl <;> rfl) (Nat.le_of_ble_eq_true rfl) (Nat.le_of_ble_eq_true rfl) d_law_0 rfl (fun q0 => ?_)
  refine a_ws (ws1 := [(q0, .inr (4, [.null, .null, .null, .null, .null, .null, .null, .int 0, .int 0, .int 0, .int 0, .int 0, .int 0]))]) rfl ?_
  refine a_dup (pc1 := 4) C d_law_3 rfl rfl ?_
  refine a_ctor (pc1 := 7) (As := []) (rest := [.ref q0]) (b := q0) C hK (fun U hW => va_AO.moved hW.alike hAO) (fun a U g mk h => va_AO.moved (u := U) (U := U.calling g mk a) (Vm.Alike.refl U.vm) h) 0 (c_T_init l D cs q0 φ0 hφ) ks_6 ks_7 ks_2 rfl (by decide +kernel) ks_8 0 [] [] rfl rfl (by decide) (by decide) hA rfl ⟨Nat.le_of_ble_eq_true rfl, Nat.le_of_ble_eq_true rfl⟩ ⟨rfl, rfl⟩ ⟨Nat.le_of_ble_eq_true rfl, Nat.le_of_ble_eq_true rfl⟩ d_law_4 rfl rfl (Nat.le_of_ble_eq_true rfl) (fun u => ?_)
  refine a_ws (ws1 := WC (adL q0 u) cs (zT φ0)) rfl ?_
  refine a_astore_n (pc1 := 8) (L1 := [(1, .ref q0), (0, .ref b)]) C d_law_7 rfl rfl (by decide) rfl ?_
  refine a_new (pc1 := 11) (fs := [.int 0, .null, .null, .null, .null, .null, .null, .int 0, .int 0, .int 0, .int 0, .long 0, .null, .int 0, .null, .null, .int 0, .long 0, .long 0, .null, .long 0, .int 0]) (ci := 5) C hK in_M ty_M ok_M ks_3 ks_4 ks_5 hA rfl (fun j hj => by rcases (show j = 0 ∨ j = 1 ∨ j = 2 ∨ j = 3 ∨ j = 4 ∨ j = 5 ∨ j = 6 ∨ j = 7 ∨ j = 8 ∨ j = 9 ∨ j = 10 ∨ j = 11 ∨ j = 12 ∨ j = 13 ∨ j = 14 ∨ j = 15 ∨ j = 16 ∨ j = 17 ∨ j = 18 ∨ j = 19 ∨ j = 20 ∨ j = 21 by omega) with rfl | rfl | rfl | rfl | rfl | rfl | rfl | rfl | rfl | rfl | rfl | rfl | rfl | rfl | rfl | rfl | rfl | rfl | rfl | rfl | rfl | rfl <;> rfl) (Nat.le_of_ble_eq_true rfl) (Nat.le_of_ble_eq_true rfl) d_law_8 rfl (fun q1 => ?_)
  refine a_dup (pc1 := 12) C d_law_11 rfl rfl ?_
  refine a_ctor (pc1 := 15) (As := []) (rest := [.ref q1]) (b := q1) C hK (X := fun _ => True) (fun _ _ => trivial) (fun _ _ _ _ h => h) 0 (c_M_init l D cs q1 ψ0 hψ) ks_9 ks_10 ks_5 rfl (by decide +kernel) ks_11 36 (List.range 36) (WC (adL q0 u) cs (zT φ0)) rfl rfl (by decide) (by decide) hA rfl ⟨Nat.le_of_ble_eq_true rfl, Nat.le_of_ble_eq_true rfl⟩ ⟨rfl, rfl⟩ ⟨Nat.le_of_ble_eq_true rfl, Nat.le_of_ble_eq_true rfl⟩ d_law_12 rfl rfl (Nat.le_of_ble_eq_true rfl) (fun v => ?_)
  refine a_astore_n (pc1 := 16) (L1 := [(2, .ref q1), (1, .ref q0), (0, .ref b)]) C d_law_15 rfl rfl (by decide) rfl ?_
  refine a_iconst (pc1 := 17) (v := nI 0) C d_law_16 rfl (by decide) ?_
  refine a_istore_n (pc1 := 18) (L1 := [(3, .int (nI 0)), (2, .ref q1), (1, .ref q0), (0, .ref b)]) C d_law_17 rfl rfl (by decide) rfl ?_
  intro H locs ls h1 h2 h3 h4
  have hAa : ∀ q, AC (adL q0 u) q → (fun q : Nat => s.heap.size ≤ q) q := fun q hq => by
    have hq2 : q ∈ (WC (adL q0 u) cs (zT φ0)).map (fun q => q.1) := hq
    obtain ⟨x, hx, hxe⟩ := List.mem_map.mp (List.mem_map.mpr (List.mem_map.mp hq2))
    obtain ⟨j, hj⟩ := List.mem_iff_getElem?.mp (List.mem_append_left (WM (adL q1 v) cs ψ0) hx)
    rw [← hxe]; exact h2.2 j x hj
  have hAb : ∀ q, AM (adL q1 v) q → (fun q : Nat => s.heap.size ≤ q) q := fun q hq => by
    have hq2 : q ∈ (WM (adL q1 v) cs ψ0).map (fun q => q.1) := hq
    obtain ⟨x, hx, hxe⟩ := List.mem_map.mp hq2
    obtain ⟨j, hj⟩ := List.mem_iff_getElem?.mp (List.mem_append_right (WC (adL q0 u) cs (zT φ0)) hx)
    rw [← hxe]; exact h2.2 j x hj
  refine law_loop (a := adL q0 u) (b := adL q1 v) (sb := b) C hK hSx hX hbl hbA hAa hAb relOK hL (fun i μ ν => ?_) 65 0 (by omega) (by omega) (zT φ0) ψ0 hRel H locs ls h1 h2 h3 h4
  intro H locs ls h1 h2 h3 h4
  exact va_forget (fun q hq => h3.2.2 q hq) (lv_iconst (v := 1) hx hb d_law_1249 (by decide) (lw_ret hx hb hr hlocks d_law_1250))
