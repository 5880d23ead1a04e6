-- TentPegs.within(III)Z
set_option maxHeartbeats 4000000 in
set_option maxRecDepth 100000 in
theorem c_T_within (l : Launch) (x0 : Int32) (x1 : Int32) (x2 : Int32) (r : Int32) (hF : F_T_within x0 x1 x2 = some r) : SetI l y_T_within b_T_within 3 (some .boolean) { frames := 0, cells := 0, slots := 0, locals := 0 } [.int x0, .int x1, .int x2] r := by
  refine met_ofS rfl (by decide +kernel) (Nat.le_of_ble_eq_true rfl) (fun p e s m below meth c C hr hlk => ?_)
  unfold F_T_within at hF
  show G p l e { frames := 0, cells := 0, slots := 0, locals := 0 } s m _ below meth c _ (fun _ => 0, fun _ _ => 0) (fun _ => False) 3 [] 0 [(0, .int x0), (1, .int x1), (2, .int x2)] []
  refine g_iload_n (pc1 := 1) C d_T_within_0 rfl rfl 1 rfl ?_
  refine g_iload_n (pc1 := 2) C d_T_within_1 rfl rfl 0 rfl ?_
  refine g_icmp_gt (pc1 := 5) C 14 d_T_within_2 rfl (by decide) (fun c1 => ?_) (fun c1 => ?_)
  · replace hF := ite_t hF c1
    refine g_iconst (pc1 := 15) (v := (0 : Int32)) C d_T_within_14 rfl ic_0 ?_
    exact g_zret C hr hlk rfl d_T_within_15 (Option.some.inj hF) rfl
  · replace hF := ite_f hF c1
    refine g_iload_n (pc1 := 6) C d_T_within_5 rfl rfl 0 rfl ?_
    refine g_iload_n (pc1 := 7) C d_T_within_6 rfl rfl 2 rfl ?_
    refine g_icmp_gt (pc1 := 10) C 14 d_T_within_7 rfl (by decide) (fun c1 => ?_) (fun c1 => ?_)
    · replace hF := ite_t hF c1
      refine g_iconst (pc1 := 15) (v := (0 : Int32)) C d_T_within_14 rfl ic_0 ?_
      exact g_zret C hr hlk rfl d_T_within_15 (Option.some.inj hF) rfl
    · replace hF := ite_f hF c1
      refine g_iconst (pc1 := 11) (v := (1 : Int32)) C d_T_within_10 rfl ic_1 ?_
      refine g_goto C 15 d_T_within_11 (by decide) ?_
      exact g_zret C hr hlk rfl d_T_within_15 (Option.some.inj hF) rfl
-- TentPegs$Field.mayPitch(I)Z
set_option maxHeartbeats 4000000 in
set_option maxRecDepth 100000 in
theorem c_F_mayPitch (l : Launch) (x0 : Int32) (r : Int32) (hF : F_F_mayPitch x0 = some r) : SetI l y_F_mayPitch b_F_mayPitch 1 (some .boolean) { frames := 1, cells := 0, slots := 0, locals := 22 } [.int x0] r := by
  refine met_ofS rfl (by decide +kernel) (Nat.le_of_ble_eq_true rfl) (fun p e s m below meth c C hr hlk => ?_)
  unfold F_F_mayPitch at hF
  show G p l e { frames := 1, cells := 0, slots := 0, locals := 22 } s m _ below meth c _ (fun _ => 0, fun _ _ => 0) (fun _ => False) 1 [] 0 [(0, .int x0)] []
  refine g_iload_n (pc1 := 1) C d_F_mayPitch_0 rfl rfl 0 rfl ?_
  refine g_iconst (pc1 := 2) (v := (2 : Int32)) C d_F_mayPitch_1 rfl ic_2 ?_
  refine g_bipush (pc1 := 4) (v := (8 : Int32)) C d_F_mayPitch_2 rfl bp_8 ?_
  obtain ⟨r1, hr1, hF⟩ := bnd_some hF
  refine g_callNI (pc1 := 7) (As := [.int x0, .int (2 : Int32), .int (8 : Int32)]) (rest := []) C 3 (c_T_within l x0 (2 : Int32) (8 : Int32) r1 hr1) s_T_within 0 rfl rfl ⟨Nat.le_of_ble_eq_true rfl, Nat.le_of_ble_eq_true rfl⟩ ⟨rfl, rfl⟩ d_F_mayPitch_4 rfl rfl (Nat.le_of_ble_eq_true rfl) ?_
  have hg := gd_some hF
  replace hF := hg.2
  exact g_zret C hr hlk (isZ_n hg.1) d_F_mayPitch_7 (Option.some.inj hF) rfl
-- TentPegs.bad(I)I
set_option maxHeartbeats 4000000 in
set_option maxRecDepth 100000 in
theorem c_T_bad (l : Launch) (D : va_G) (cs : Nat → ClassId) (a : Nat → Nat) (μ : Mem) (x1 : Int32) (r : Int32) (μ1 : Mem) (hF : F_T_bad μ x1 = some (r, μ1)) : MetI l y_T_bad b_T_bad 2 (some .int) { frames := 0, cells := 0, slots := 0, locals := 0 } D cs (AC a) (WC a cs μ) [.ref (a 0), .int x1] r (WC a cs μ1) := by
  refine met_of rfl (by decide +kernel) (Nat.le_of_ble_eq_true rfl) (fun p e s m below meth c C hK hr hlk => ?_)
  unfold F_T_bad at hF
  show G p l e { frames := 0, cells := 0, slots := 0, locals := 0 } s m _ below meth c _ D (AC a) 2 (WC a cs μ) 0 [(0, .ref (a 0)), (1, .int x1)] []
  refine g_aload_n (pc1 := 1) C d_T_bad_0 rfl rfl 0 rfl ?_
  refine g_dup (pc1 := 2) C d_T_bad_1 rfl rfl ?_
  refine get_WC_0_bads (pc1 := 5) C hK (v := (μ.1 0 10)) rfl kw_0 d_T_bad_2 rfl ?_
  refine g_iconst (pc1 := 6) (v := (1 : Int32)) C d_T_bad_5 rfl ic_1 ?_
  refine g_iadd (pc1 := 7) C d_T_bad_6 rfl ?_
  refine put_WC_0_bads (pc1 := 10) C hK kw_0 d_T_bad_7 rfl ?_
  refine g_iload_n (pc1 := 11) C d_T_bad_10 rfl rfl 1 rfl ?_
  exact g_iret C hr hlk d_T_bad_11 (fst_of hF) (congrArg (WC a cs) (snd_of hF))
-- TentPegs$Field.drive(IIII)V
set_option maxHeartbeats 4000000 in
set_option maxRecDepth 100000 in
theorem c_F_drive (l : Launch) (D : va_G) (cs : Nat → ClassId) (a : Nat → Nat) (μ : Mem) (x1 : Int32) (x2 : Int32) (x3 : Int32) (x4 : Int32) (μ1 : Mem) (hF : F_F_drive μ x1 x2 x3 x4 = some μ1) : MetV l y_F_drive b_F_drive 5 none { frames := 0, cells := 0, slots := 0, locals := 0 } D cs (AF a) (WF a cs μ) [.ref (a 0), .int x1, .int x2, .int x3, .int x4] (WF a cs μ1) := by
  refine met_of rfl (by decide +kernel) (Nat.le_of_ble_eq_true rfl) (fun p e s m below meth c C hK hr hlk => ?_)
  unfold F_F_drive at hF
  show G p l e { frames := 0, cells := 0, slots := 0, locals := 0 } s m _ below meth c _ D (AF a) 5 (WF a cs μ) 0 [(0, .ref (a 0)), (1, .int x1), (2, .int x2), (3, .int x3), (4, .int x4)] []
  refine g_aload_n (pc1 := 1) C d_F_drive_0 rfl rfl 0 rfl ?_
  refine get_WF_0_kinds (pc1 := 4) C hK kw_1 d_F_drive_1 rfl ?_
  refine g_iload_n (pc1 := 5) C d_F_drive_4 rfl rfl 1 rfl ?_
  refine g_iload_n (pc1 := 6) C d_F_drive_5 rfl rfl 2 rfl ?_
  have hg := gd_some hF
  replace hF := hg.2
  refine g_iast (pc1 := 7) (ws1 := WF a cs (stI μ 1 x1.toNatClampNeg x2)) C hK 1 (f := (μ.1 1)) rfl hg.1 (set_WF_1 _ _ _ _ _) d_F_drive_6 rfl ?_
  refine g_aload_n (pc1 := 8) C d_F_drive_7 rfl rfl 0 rfl ?_
  refine get_WF_0_depths (pc1 := 11) C hK kw_2 d_F_drive_8 rfl ?_
  refine g_iload_n (pc1 := 12) C d_F_drive_11 rfl rfl 1 rfl ?_
  refine g_iload_n (pc1 := 13) C d_F_drive_12 rfl rfl 3 rfl ?_
  have hg := gd_some hF
  replace hF := hg.2
  refine g_iast (pc1 := 14) (ws1 := WF a cs (stI (stI μ 1 x1.toNatClampNeg x2) 2 x1.toNatClampNeg x3)) C hK 2 (f := (μ.1 2)) rfl hg.1 (set_WF_2 _ _ _ _ _) d_F_drive_13 rfl ?_
  refine g_aload_n (pc1 := 15) C d_F_drive_14 rfl rfl 0 rfl ?_
  refine get_WF_0_grounds (pc1 := 18) C hK kw_3 d_F_drive_15 rfl ?_
  refine g_iload_n (pc1 := 19) C d_F_drive_18 rfl rfl 1 rfl ?_
  refine g_iload (pc1 := 21) C d_F_drive_19 rfl 4 rfl ?_
  have hg := gd_some hF
  replace hF := hg.2
  refine g_iast (pc1 := 22) (ws1 := WF a cs (stI (stI (stI μ 1 x1.toNatClampNeg x2) 2 x1.toNatClampNeg x3) 3 x1.toNatClampNeg x4)) C hK 3 (f := (μ.1 3)) rfl hg.1 (set_WF_3 _ _ _ _ _) d_F_drive_21 rfl ?_
  exact g_vret C hr hlk d_F_drive_22 (congrArg (WF a cs) (Option.some.inj hF))
-- TentPegs$Field.pitch(I)V
set_option maxHeartbeats 4000000 in
set_option maxRecDepth 100000 in
theorem p_F_pitch_53 {p : Program} {l : Launch} {e : Env} {s : State} {m : MethodId} {args : Array Value} {below : List Frame} {meth : Method} {c : Code} {D : va_G} {cs : Nat → ClassId} {a : Nat → Nat} {μ1 : Mem} (C : Cx p s m args c b_F_pitch 3 "TentPegs$Field") (hK : va_K D classes (tys cs) s) (hr : meth.sig.returnType = none) (hlk : meth.locks = false)  : ∀ (μ : Mem) (x2 : Int32), F_F_pitch_53  μ x2 = some μ1 → G p l e { frames := 1, cells := 0, slots := 0, locals := 24 } s m args below meth c (MQ below (Qv (AF a) D (WF a cs μ1)) args s 0 0 (AF a)) D (AF a) 3 (WF a cs μ) 53 [(0, .ref (a 0)), (2, .int x2)] [] := by
  refine iter_ind (fun (K53 : Mem → Int32 → Option Mem) => ∀ (μ : Mem) (x2 : Int32), K53 μ x2 = some μ1 → G p l e { frames := 1, cells := 0, slots := 0, locals := 24 } s m args below meth c (MQ below (Qv (AF a) D (WF a cs μ1)) args s 0 0 (AF a)) D (AF a) 3 (WF a cs μ) 53 [(0, .ref (a 0)), (2, .int x2)] []) ?_ ?_ NF
  · intro μ x2 hF
    exact none_no hF
  · intro K53 hK53 μ x2 hF
    unfold S_F_pitch_53 at hF
    refine g_iload_n (pc1 := 54) C d_F_pitch_53 rfl rfl 1 rfl ?_
    refine g_bipush (pc1 := 56) (v := (8 : Int32)) C d_F_pitch_54 rfl bp_8 ?_
    refine g_icmp_ge (pc1 := 59) C 72 d_F_pitch_56 rfl (by decide) (fun c1 => ?_) (fun c1 => ?_)
    · replace hF := ite_t hF c1
      exact g_vret C hr hlk d_F_pitch_72 (congrArg (WF a cs) (Option.some.inj hF))
    · replace hF := ite_f hF c1
      refine g_aload_n (pc1 := 60) C d_F_pitch_59 rfl rfl 0 rfl ?_
      refine get_WF_0_chances (pc1 := 63) C hK kw_10 d_F_pitch_60 rfl ?_
      refine g_iload_n (pc1 := 64) C d_F_pitch_63 rfl rfl 1 rfl ?_
      refine g_iconst (pc1 := 65) (v := (1 : Int32)) C d_F_pitch_64 rfl ic_1 ?_
      have hg := gd_some hF
      replace hF := hg.2
      refine g_iast (pc1 := 66) (ws1 := WF a cs (stI μ 4 x2.toNatClampNeg (1 : Int32))) C hK 4 (f := (μ.1 4)) rfl hg.1 (set_WF_4 _ _ _ _ _) d_F_pitch_65 rfl ?_
      refine g_iinc (pc1 := 69) (v := (x2 + (1 : Int32))) (L1 := [(2, .int (x2 + (1 : Int32))), (0, .ref (a 0))]) C d_F_pitch_66 rfl 1 rfl (by rw [ic_1]) (by decide) rfl ?_
      refine g_goto C 53 d_F_pitch_69 (by decide) ?_
      exact g_sub [1, 0] rfl (hK53 (stI μ 4 x2.toNatClampNeg (1 : Int32)) (x2 + (1 : Int32)) hF)
set_option maxHeartbeats 4000000 in
set_option maxRecDepth 100000 in
theorem p_F_pitch_31 {p : Program} {l : Launch} {e : Env} {s : State} {m : MethodId} {args : Array Value} {below : List Frame} {meth : Method} {c : Code} {D : va_G} {cs : Nat → ClassId} {a : Nat → Nat} {μ1 : Mem} (C : Cx p s m args c b_F_pitch 3 "TentPegs$Field") (hK : va_K D classes (tys cs) s) (hr : meth.sig.returnType = none) (hlk : meth.locks = false)  : ∀ (μ : Mem) (x2 : Int32), F_F_pitch_31  μ x2 = some μ1 → G p l e { frames := 1, cells := 0, slots := 0, locals := 24 } s m args below meth c (MQ below (Qv (AF a) D (WF a cs μ1)) args s 0 0 (AF a)) D (AF a) 3 (WF a cs μ) 31 [(0, .ref (a 0)), (2, .int x2)] [] := by
  refine iter_ind (fun (K31 : Mem → Int32 → Option Mem) => ∀ (μ : Mem) (x2 : Int32), K31 μ x2 = some μ1 → G p l e { frames := 1, cells := 0, slots := 0, locals := 24 } s m args below meth c (MQ below (Qv (AF a) D (WF a cs μ1)) args s 0 0 (AF a)) D (AF a) 3 (WF a cs μ) 31 [(0, .ref (a 0)), (2, .int x2)] []) ?_ ?_ NF
  · intro μ x2 hF
    exact none_no hF
  · intro K31 hK31 μ x2 hF
    unfold S_F_pitch_31 at hF
    refine g_iload_n (pc1 := 32) C d_F_pitch_31 rfl rfl 1 rfl ?_
    refine g_bipush (pc1 := 34) (v := (8 : Int32)) C d_F_pitch_32 rfl bp_8 ?_
    refine g_icmp_ge (pc1 := 37) C 51 d_F_pitch_34 rfl (by decide) (fun c1 => ?_) (fun c1 => ?_)
    · replace hF := ite_t hF c1
      refine g_iconst (pc1 := 52) (v := (0 : Int32)) C d_F_pitch_51 rfl ic_0 ?_
      refine g_istore_n (pc1 := 53) (L1 := [(2, .int (0 : Int32)), (0, .ref (a 0))]) C d_F_pitch_52 rfl rfl (by decide) rfl ?_
      exact g_sub [1, 0] rfl (p_F_pitch_53 C hK hr hlk  μ (0 : Int32) hF)
    · replace hF := ite_f hF c1
      refine g_aload_n (pc1 := 38) C d_F_pitch_37 rfl rfl 0 rfl ?_
      refine g_iload_n (pc1 := 39) C d_F_pitch_38 rfl rfl 1 rfl ?_
      refine g_iconst (pc1 := 40) (v := (0 : Int32)) C d_F_pitch_39 rfl ic_0 ?_
      refine g_iconst (pc1 := 41) (v := (5 : Int32)) C d_F_pitch_40 rfl ic_5 ?_
      refine g_iconst (pc1 := 42) (v := (4 : Int32)) C d_F_pitch_41 rfl ic_4 ?_
      obtain ⟨m1, hm1, hF⟩ := bnd_some hF
      refine g_callVV (pc1 := 45) (ws1 := WF a cs m1) (As := [.int x2, .int (0 : Int32), .int (5 : Int32), .int (4 : Int32)]) (rest := []) (b := a 0) C hK 4 (c_F_drive l D cs a μ x2 (0 : Int32) (5 : Int32) (4 : Int32) m1 hm1) s_F_drive kw_9 0 rfl rfl rfl ⟨Nat.le_of_ble_eq_true rfl, Nat.le_of_ble_eq_true rfl⟩ ⟨rfl, rfl⟩ d_F_pitch_42 rfl rfl (Nat.le_of_ble_eq_true rfl) ?_
      refine g_iinc (pc1 := 48) (v := (x2 + (1 : Int32))) (L1 := [(2, .int (x2 + (1 : Int32))), (0, .ref (a 0))]) C d_F_pitch_45 rfl 1 rfl (by rw [ic_1]) (by decide) rfl ?_
      refine g_goto C 31 d_F_pitch_48 (by decide) ?_
      exact g_sub [1, 0] rfl (hK31 m1 (x2 + (1 : Int32)) hF)
set_option maxHeartbeats 4000000 in
set_option maxRecDepth 100000 in
theorem c_F_pitch (l : Launch) (D : va_G) (cs : Nat → ClassId) (a : Nat → Nat) (μ : Mem) (x1 : Int32) (μ1 : Mem) (hF : F_F_pitch μ x1 = some μ1) : MetV l y_F_pitch b_F_pitch 3 none { frames := 1, cells := 0, slots := 0, locals := 24 } D cs (AF a) (WF a cs μ) [.ref (a 0), .int x1] (WF a cs μ1) := by
  refine met_of rfl (by decide +kernel) (Nat.le_of_ble_eq_true rfl) (fun p e s m below meth c C hK hr hlk => ?_)
  unfold F_F_pitch at hF
  show G p l e { frames := 1, cells := 0, slots := 0, locals := 24 } s m _ below meth c _ D (AF a) 3 (WF a cs μ) 0 [(0, .ref (a 0)), (1, .int x1)] []
  refine g_aload_n (pc1 := 1) C d_F_pitch_0 rfl rfl 0 rfl ?_
  refine g_iload_n (pc1 := 2) C d_F_pitch_1 rfl rfl 1 rfl ?_
  refine put_WF_0_pegs (pc1 := 5) C hK kw_4 d_F_pitch_2 rfl ?_
  refine g_aload_n (pc1 := 6) C d_F_pitch_5 rfl rfl 0 rfl ?_
  refine g_iconst (pc1 := 7) (v := (0 : Int32)) C d_F_pitch_6 rfl ic_0 ?_
  refine put_WF_0_wetness (pc1 := 10) C hK kw_5 d_F_pitch_7 rfl ?_
  refine g_aload_n (pc1 := 11) C d_F_pitch_10 rfl rfl 0 rfl ?_
  refine g_iconst (pc1 := 12) (v := (0 : Int32)) C d_F_pitch_11 rfl ic_0 ?_
  refine put_WF_0_walls (pc1 := 15) C hK kw_6 d_F_pitch_12 rfl ?_
  refine g_aload_n (pc1 := 16) C d_F_pitch_15 rfl rfl 0 rfl ?_
  refine g_iconst (pc1 := 17) (v := (1 : Int32)) C d_F_pitch_16 rfl ic_1 ?_
  refine g_iload_n (pc1 := 18) C d_F_pitch_17 rfl rfl 1 rfl ?_
  refine g_ishl (pc1 := 19) C d_F_pitch_18 rfl ?_
  refine g_iconst (pc1 := 20) (v := (1 : Int32)) C d_F_pitch_19 rfl ic_1 ?_
  refine g_isub (pc1 := 21) C d_F_pitch_20 rfl ?_
  refine put_WF_0_standing (pc1 := 24) C hK kw_7 d_F_pitch_21 rfl ?_
  refine g_aload_n (pc1 := 25) C d_F_pitch_24 rfl rfl 0 rfl ?_
  refine g_iconst (pc1 := 26) (v := (0 : Int32)) C d_F_pitch_25 rfl ic_0 ?_
  refine put_WF_0_undoable (pc1 := 29) C hK kw_8 d_F_pitch_26 rfl ?_
  refine g_iconst (pc1 := 30) (v := (0 : Int32)) C d_F_pitch_29 rfl ic_0 ?_
  refine g_istore_n (pc1 := 31) (L1 := [(2, .int (0 : Int32)), (0, .ref (a 0)), (1, .int x1)]) C d_F_pitch_30 rfl rfl (by decide) rfl ?_
  exact g_sub [1, 0] rfl (p_F_pitch_31 C hK hr hlk  (stI (stI (stI (stI (stI μ 0 0 x1) 0 1 (0 : Int32)) 0 2 (0 : Int32)) 0 3 (((1 : Int32) <<< (x1 &&& 31)) - (1 : Int32))) 0 4 (0 : Int32)) (0 : Int32) hF)
-- TentPegs.tent(I)I
set_option maxHeartbeats 4000000 in
set_option maxRecDepth 100000 in
theorem c_T_tent (l : Launch) (D : va_G) (cs : Nat → ClassId) (a : Nat → Nat) (μ : Mem) (x1 : Int32) (r : Int32) (μ1 : Mem) (hF : F_T_tent μ x1 = some (r, μ1)) : MetI l y_T_tent b_T_tent 3 (some .int) { frames := 2, cells := 0, slots := 0, locals := 46 } D cs (AC a) (WC a cs μ) [.ref (a 0), .int x1] r (WC a cs μ1) := by
  refine met_of rfl (by decide +kernel) (Nat.le_of_ble_eq_true rfl) (fun p e s m below meth c C hK hr hlk => ?_)
  unfold F_T_tent at hF
  show G p l e { frames := 2, cells := 0, slots := 0, locals := 46 } s m _ below meth c _ D (AC a) 3 (WC a cs μ) 0 [(0, .ref (a 0)), (1, .int x1)] []
  refine g_iload_n (pc1 := 1) C d_T_tent_0 rfl rfl 1 rfl ?_
  obtain ⟨r1, hr1, hF⟩ := bnd_some hF
  refine g_callSI (pc1 := 4) (As := [.int x1]) (rest := []) C 1 (c_F_mayPitch l x1 r1 hr1) s_F_mayPitch kw_11 rfl ⟨Nat.le_of_ble_eq_true rfl, Nat.le_of_ble_eq_true rfl⟩ ⟨rfl, rfl⟩ d_T_tent_1 rfl rfl (Nat.le_of_ble_eq_true rfl) ?_
  refine g_if_ne (pc1 := 7) C 14 d_T_tent_4 rfl (by decide) (fun c1 => ?_) (fun c1 => ?_)
  · replace hF := ite_f hF c1
    refine g_aload_n (pc1 := 15) C d_T_tent_14 rfl rfl 0 rfl ?_
    refine get_WC_0_field (pc1 := 18) C hK kw_12 d_T_tent_15 rfl ?_
    refine get_WC_1_pegs (pc1 := 21) C hK (v := (μ.1 1 0)) rfl kw_13 d_T_tent_18 rfl ?_
    refine g_istore_n (pc1 := 22) (L1 := [(2, .int (μ.1 1 0)), (0, .ref (a 0)), (1, .int x1)]) C d_T_tent_21 rfl rfl (by decide) rfl ?_
    refine g_aload_n (pc1 := 23) C d_T_tent_22 rfl rfl 1 rfl ?_
    refine get_WC_0_field (pc1 := 26) C hK kw_12 d_T_tent_23 rfl ?_
    refine g_iload_n (pc1 := 27) C d_T_tent_26 rfl rfl 2 rfl ?_
    obtain ⟨m2, hm2, hF⟩ := bnd_some hF
    refine g_callFV (pc1 := 30) (ws1 := WC a cs (put6 1 0 μ m2)) (As := [.int x1]) (rest := []) (b := a 1) C hK 1 (fr_1 a cs μ m2) (c_F_pitch l D cs (off 1 a) (sub 1 μ) x1 m2 hm2) s_F_pitch kw_14 1 rfl rfl rfl ⟨Nat.le_of_ble_eq_true rfl, Nat.le_of_ble_eq_true rfl⟩ ⟨rfl, rfl⟩ d_T_tent_27 rfl rfl (Nat.le_of_ble_eq_true rfl) ?_
    refine g_iload_n (pc1 := 31) C d_T_tent_30 rfl rfl 0 rfl ?_
    exact g_iret C hr hlk d_T_tent_31 (fst_of hF) (congrArg (WC a cs) (snd_of hF))
  · replace hF := ite_t hF c1
    refine g_aload_n (pc1 := 8) C d_T_tent_7 rfl rfl 0 rfl ?_
    refine g_bipush (pc1 := 10) (v := (-2 : Int32)) C d_T_tent_8 rfl bp_m2 ?_
    obtain ⟨⟨r3, m3⟩, hm3, hF⟩ := bnd_some hF
    refine g_callVI (pc1 := 13) (ws1 := WC a cs m3) (As := [.int (-2 : Int32)]) (rest := []) (b := a 0) C hK 1 (c_T_bad l D cs a μ (-2 : Int32) r3 m3 hm3) s_T_bad kw_15 0 rfl rfl rfl ⟨Nat.le_of_ble_eq_true rfl, Nat.le_of_ble_eq_true rfl⟩ ⟨rfl, rfl⟩ d_T_tent_10 rfl rfl (Nat.le_of_ble_eq_true rfl) ?_
    exact g_iret C hr hlk d_T_tent_13 (fst_of hF) (congrArg (WC a cs) (snd_of hF))
-- TentPegs$Field.hasPeg(I)Z
set_option maxHeartbeats 4000000 in
set_option maxRecDepth 100000 in
theorem c_F_hasPeg (l : Launch) (D : va_G) (cs : Nat → ClassId) (a : Nat → Nat) (μ : Mem) (x1 : Int32) (r : Int32) (hF : F_F_hasPeg μ x1 = some r) : MetI l y_F_hasPeg b_F_hasPeg 2 (some .boolean) { frames := 1, cells := 0, slots := 0, locals := 22 } D cs (AF a) (WF a cs μ) [.ref (a 0), .int x1] r (WF a cs μ) := by
  refine met_of rfl (by decide +kernel) (Nat.le_of_ble_eq_true rfl) (fun p e s m below meth c C hK hr hlk => ?_)
  unfold F_F_hasPeg at hF
  show G p l e { frames := 1, cells := 0, slots := 0, locals := 22 } s m _ below meth c _ D (AF a) 2 (WF a cs μ) 0 [(0, .ref (a 0)), (1, .int x1)] []
  refine g_iload_n (pc1 := 1) C d_F_hasPeg_0 rfl rfl 1 rfl ?_
  refine g_iconst (pc1 := 2) (v := (0 : Int32)) C d_F_hasPeg_1 rfl ic_0 ?_
  refine g_aload_n (pc1 := 3) C d_F_hasPeg_2 rfl rfl 0 rfl ?_
  refine get_WF_0_pegs (pc1 := 6) C hK (v := (μ.1 0 0)) rfl kw_4 d_F_hasPeg_3 rfl ?_
  refine g_iconst (pc1 := 7) (v := (1 : Int32)) C d_F_hasPeg_6 rfl ic_1 ?_
  refine g_isub (pc1 := 8) C d_F_hasPeg_7 rfl ?_
  obtain ⟨r1, hr1, hF⟩ := bnd_some hF
  refine g_callNI (pc1 := 11) (As := [.int x1, .int (0 : Int32), .int ((μ.1 0 0) - (1 : Int32))]) (rest := []) C 3 (c_T_within l x1 (0 : Int32) ((μ.1 0 0) - (1 : Int32)) r1 hr1) s_T_within 0 rfl rfl ⟨Nat.le_of_ble_eq_true rfl, Nat.le_of_ble_eq_true rfl⟩ ⟨rfl, rfl⟩ d_F_hasPeg_8 rfl rfl (Nat.le_of_ble_eq_true rfl) ?_
  have hg := gd_some hF
  replace hF := hg.2
  exact g_zret C hr hlk (isZ_n hg.1) d_F_hasPeg_11 (Option.some.inj hF) rfl
-- TentPegs$Field.mayDrive(IIII)Z
set_option maxHeartbeats 4000000 in
set_option maxRecDepth 100000 in
theorem c_F_mayDrive (l : Launch) (D : va_G) (cs : Nat → ClassId) (a : Nat → Nat) (μ : Mem) (x1 : Int32) (x2 : Int32) (x3 : Int32) (x4 : Int32) (r : Int32) (hF : F_F_mayDrive μ x1 x2 x3 x4 = some r) : MetI l y_F_mayDrive b_F_mayDrive 5 (some .boolean) { frames := 2, cells := 0, slots := 0, locals := 43 } D cs (AF a) (WF a cs μ) [.ref (a 0), .int x1, .int x2, .int x3, .int x4] r (WF a cs μ) := by
  refine met_of rfl (by decide +kernel) (Nat.le_of_ble_eq_true rfl) (fun p e s m below meth c C hK hr hlk => ?_)
  unfold F_F_mayDrive at hF
  show G p l e { frames := 2, cells := 0, slots := 0, locals := 43 } s m _ below meth c _ D (AF a) 5 (WF a cs μ) 0 [(0, .ref (a 0)), (1, .int x1), (2, .int x2), (3, .int x3), (4, .int x4)] []
  refine g_aload_n (pc1 := 1) C d_F_mayDrive_0 rfl rfl 0 rfl ?_
  refine g_iload_n (pc1 := 2) C d_F_mayDrive_1 rfl rfl 1 rfl ?_
  obtain ⟨r1, hr1, hF⟩ := bnd_some hF
  refine g_callVI (pc1 := 5) (ws1 := WF a cs μ) (As := [.int x1]) (rest := []) (b := a 0) C hK 1 (c_F_hasPeg l D cs a μ x1 r1 hr1) s_F_hasPeg kw_16 0 rfl rfl rfl ⟨Nat.le_of_ble_eq_true rfl, Nat.le_of_ble_eq_true rfl⟩ ⟨rfl, rfl⟩ d_F_mayDrive_2 rfl rfl (Nat.le_of_ble_eq_true rfl) ?_
  refine g_if_eq (pc1 := 8) C 42 d_F_mayDrive_5 rfl (by decide) (fun c1 => ?_) (fun c1 => ?_)
  · replace hF := ite_t hF c1
    refine g_iconst (pc1 := 43) (v := (0 : Int32)) C d_F_mayDrive_42 rfl ic_0 ?_
    exact g_zret C hr hlk rfl d_F_mayDrive_43 (Option.some.inj hF) rfl
  · replace hF := ite_f hF c1
    refine g_iload_n (pc1 := 9) C d_F_mayDrive_8 rfl rfl 2 rfl ?_
    refine g_iconst (pc1 := 10) (v := (0 : Int32)) C d_F_mayDrive_9 rfl ic_0 ?_
    refine g_iconst (pc1 := 11) (v := (5 : Int32)) C d_F_mayDrive_10 rfl ic_5 ?_
    obtain ⟨r2, hr2, hF⟩ := bnd_some hF
    refine g_callNI (pc1 := 14) (As := [.int x2, .int (0 : Int32), .int (5 : Int32)]) (rest := []) C 3 (c_T_within l x2 (0 : Int32) (5 : Int32) r2 hr2) s_T_within 0 rfl rfl ⟨Nat.le_of_ble_eq_true rfl, Nat.le_of_ble_eq_true rfl⟩ ⟨rfl, rfl⟩ d_F_mayDrive_11 rfl rfl (Nat.le_of_ble_eq_true rfl) ?_
    refine g_if_eq (pc1 := 17) C 42 d_F_mayDrive_14 rfl (by decide) (fun c1 => ?_) (fun c1 => ?_)
    · replace hF := ite_t hF c1
      refine g_iconst (pc1 := 43) (v := (0 : Int32)) C d_F_mayDrive_42 rfl ic_0 ?_
      exact g_zret C hr hlk rfl d_F_mayDrive_43 (Option.some.inj hF) rfl
    · replace hF := ite_f hF c1
      refine g_iload_n (pc1 := 18) C d_F_mayDrive_17 rfl rfl 3 rfl ?_
      refine g_iconst (pc1 := 19) (v := (0 : Int32)) C d_F_mayDrive_18 rfl ic_0 ?_
      refine g_bipush (pc1 := 21) (v := (9 : Int32)) C d_F_mayDrive_19 rfl bp_9 ?_
      obtain ⟨r3, hr3, hF⟩ := bnd_some hF
      refine g_callNI (pc1 := 24) (As := [.int x3, .int (0 : Int32), .int (9 : Int32)]) (rest := []) C 3 (c_T_within l x3 (0 : Int32) (9 : Int32) r3 hr3) s_T_within 0 rfl rfl ⟨Nat.le_of_ble_eq_true rfl, Nat.le_of_ble_eq_true rfl⟩ ⟨rfl, rfl⟩ d_F_mayDrive_21 rfl rfl (Nat.le_of_ble_eq_true rfl) ?_
      refine g_if_eq (pc1 := 27) C 42 d_F_mayDrive_24 rfl (by decide) (fun c1 => ?_) (fun c1 => ?_)
      · replace hF := ite_t hF c1
        refine g_iconst (pc1 := 43) (v := (0 : Int32)) C d_F_mayDrive_42 rfl ic_0 ?_
        exact g_zret C hr hlk rfl d_F_mayDrive_43 (Option.some.inj hF) rfl
      · replace hF := ite_f hF c1
        refine g_iload (pc1 := 29) C d_F_mayDrive_27 rfl 4 rfl ?_
        refine g_iconst (pc1 := 30) (v := (0 : Int32)) C d_F_mayDrive_29 rfl ic_0 ?_
        refine g_bipush (pc1 := 32) (v := (9 : Int32)) C d_F_mayDrive_30 rfl bp_9 ?_
        obtain ⟨r4, hr4, hF⟩ := bnd_some hF
        refine g_callNI (pc1 := 35) (As := [.int x4, .int (0 : Int32), .int (9 : Int32)]) (rest := []) C 3 (c_T_within l x4 (0 : Int32) (9 : Int32) r4 hr4) s_T_within 0 rfl rfl ⟨Nat.le_of_ble_eq_true rfl, Nat.le_of_ble_eq_true rfl⟩ ⟨rfl, rfl⟩ d_F_mayDrive_32 rfl rfl (Nat.le_of_ble_eq_true rfl) ?_
        refine g_if_eq (pc1 := 38) C 42 d_F_mayDrive_35 rfl (by decide) (fun c1 => ?_) (fun c1 => ?_)
        · replace hF := ite_t hF c1
          refine g_iconst (pc1 := 43) (v := (0 : Int32)) C d_F_mayDrive_42 rfl ic_0 ?_
          exact g_zret C hr hlk rfl d_F_mayDrive_43 (Option.some.inj hF) rfl
        · replace hF := ite_f hF c1
          refine g_iconst (pc1 := 39) (v := (1 : Int32)) C d_F_mayDrive_38 rfl ic_1 ?_
          refine g_goto C 43 d_F_mayDrive_39 (by decide) ?_
          exact g_zret C hr hlk rfl d_F_mayDrive_43 (Option.some.inj hF) rfl
-- TentPegs.peg(IIII)I
set_option maxHeartbeats 4000000 in
set_option maxRecDepth 100000 in
theorem c_T_peg (l : Launch) (D : va_G) (cs : Nat → ClassId) (a : Nat → Nat) (μ : Mem) (x1 : Int32) (x2 : Int32) (x3 : Int32) (x4 : Int32) (r : Int32) (μ1 : Mem) (hF : F_T_peg μ x1 x2 x3 x4 = some (r, μ1)) : MetI l y_T_peg b_T_peg 6 (some .int) { frames := 3, cells := 0, slots := 0, locals := 67 } D cs (AC a) (WC a cs μ) [.ref (a 0), .int x1, .int x2, .int x3, .int x4] r (WC a cs μ1) := by
  refine met_of rfl (by decide +kernel) (Nat.le_of_ble_eq_true rfl) (fun p e s m below meth c C hK hr hlk => ?_)
  unfold F_T_peg at hF
  show G p l e { frames := 3, cells := 0, slots := 0, locals := 67 } s m _ below meth c _ D (AC a) 6 (WC a cs μ) 0 [(0, .ref (a 0)), (1, .int x1), (2, .int x2), (3, .int x3), (4, .int x4)] []
  refine g_aload_n (pc1 := 1) C d_T_peg_0 rfl rfl 0 rfl ?_
  refine get_WC_0_field (pc1 := 4) C hK kw_12 d_T_peg_1 rfl ?_
  refine g_iload_n (pc1 := 5) C d_T_peg_4 rfl rfl 1 rfl ?_
  refine g_iload_n (pc1 := 6) C d_T_peg_5 rfl rfl 2 rfl ?_
  refine g_iload_n (pc1 := 7) C d_T_peg_6 rfl rfl 3 rfl ?_
  refine g_iload (pc1 := 9) C d_T_peg_7 rfl 4 rfl ?_
  obtain ⟨r1, hr1, hF⟩ := bnd_some hF
  refine g_callFI (pc1 := 12) (ws1 := WC a cs μ) (As := [.int x1, .int x2, .int x3, .int x4]) (rest := []) (b := a 1) C hK 4 (frR_1 a cs μ) (c_F_mayDrive l D cs (off 1 a) (sub 1 μ) x1 x2 x3 x4 r1 hr1) s_F_mayDrive kw_17 1 rfl rfl rfl ⟨Nat.le_of_ble_eq_true rfl, Nat.le_of_ble_eq_true rfl⟩ ⟨rfl, rfl⟩ d_T_peg_9 rfl rfl (Nat.le_of_ble_eq_true rfl) ?_
  refine g_if_ne (pc1 := 15) C 22 d_T_peg_12 rfl (by decide) (fun c1 => ?_) (fun c1 => ?_)
  · replace hF := ite_f hF c1
    refine g_aload_n (pc1 := 23) C d_T_peg_22 rfl rfl 0 rfl ?_
    refine get_WC_0_field (pc1 := 26) C hK kw_12 d_T_peg_23 rfl ?_
    refine get_WC_1_kinds (pc1 := 29) C hK kw_18 d_T_peg_26 rfl ?_
    refine g_iload_n (pc1 := 30) C d_T_peg_29 rfl rfl 1 rfl ?_
    have hg := gd_some hF
    replace hF := hg.2
    refine g_iald (pc1 := 31) C hK 2 (f := (μ.1 2)) rfl hg.1 d_T_peg_30 rfl ?_
    refine g_istore (pc1 := 33) (L1 := [(5, .int ((μ.1 2) x1.toNatClampNeg)), (0, .ref (a 0)), (1, .int x1), (2, .int x2), (3, .int x3), (4, .int x4)]) C d_T_peg_31 rfl (by decide) rfl ?_
    refine g_aload_n (pc1 := 34) C d_T_peg_33 rfl rfl 1 rfl ?_
    refine get_WC_0_field (pc1 := 37) C hK kw_12 d_T_peg_34 rfl ?_
    refine g_iload_n (pc1 := 38) C d_T_peg_37 rfl rfl 2 rfl ?_
    refine g_iload_n (pc1 := 39) C d_T_peg_38 rfl rfl 3 rfl ?_
    refine g_iload_n (pc1 := 40) C d_T_peg_39 rfl rfl 4 rfl ?_
    refine g_iload (pc1 := 42) C d_T_peg_40 rfl 5 rfl ?_
    obtain ⟨m2, hm2, hF⟩ := bnd_some hF
    refine g_callFV (pc1 := 45) (ws1 := WC a cs (put6 1 0 μ m2)) (As := [.int x1, .int x2, .int x3, .int x4]) (rest := []) (b := a 1) C hK 4 (fr_1 a cs μ m2) (c_F_drive l D cs (off 1 a) (sub 1 μ) x1 x2 x3 x4 m2 hm2) s_F_drive kw_19 1 rfl rfl rfl ⟨Nat.le_of_ble_eq_true rfl, Nat.le_of_ble_eq_true rfl⟩ ⟨rfl, rfl⟩ d_T_peg_42 rfl rfl (Nat.le_of_ble_eq_true rfl) ?_
    refine g_iload (pc1 := 47) C d_T_peg_45 rfl 0 rfl ?_
    exact g_iret C hr hlk d_T_peg_47 (fst_of hF) (congrArg (WC a cs) (snd_of hF))
  · replace hF := ite_t hF c1
    refine g_aload_n (pc1 := 16) C d_T_peg_15 rfl rfl 0 rfl ?_
    refine g_bipush (pc1 := 18) (v := (-2 : Int32)) C d_T_peg_16 rfl bp_m2 ?_
    obtain ⟨⟨r3, m3⟩, hm3, hF⟩ := bnd_some hF
    refine g_callVI (pc1 := 21) (ws1 := WC a cs m3) (As := [.int (-2 : Int32)]) (rest := []) (b := a 0) C hK 1 (c_T_bad l D cs a μ (-2 : Int32) r3 m3 hm3) s_T_bad kw_15 0 rfl rfl rfl ⟨Nat.le_of_ble_eq_true rfl, Nat.le_of_ble_eq_true rfl⟩ ⟨rfl, rfl⟩ d_T_peg_18 rfl rfl (Nat.le_of_ble_eq_true rfl) ?_
    exact g_iret C hr hlk d_T_peg_21 (fst_of hF) (congrArg (WC a cs) (snd_of hF))
-- TentPegs$Field.mayWet(I)Z
set_option maxHeartbeats 4000000 in
set_option maxRecDepth 100000 in
theorem c_F_mayWet (l : Launch) (x0 : Int32) (r : Int32) (hF : F_F_mayWet x0 = some r) : SetI l y_F_mayWet b_F_mayWet 1 (some .boolean) { frames := 1, cells := 0, slots := 0, locals := 22 } [.int x0] r := by
  refine met_ofS rfl (by decide +kernel) (Nat.le_of_ble_eq_true rfl) (fun p e s m below meth c C hr hlk => ?_)
  unfold F_F_mayWet at hF
  show G p l e { frames := 1, cells := 0, slots := 0, locals := 22 } s m _ below meth c _ (fun _ => 0, fun _ _ => 0) (fun _ => False) 1 [] 0 [(0, .int x0)] []
  refine g_iload_n (pc1 := 1) C d_F_mayWet_0 rfl rfl 0 rfl ?_
  refine g_iconst (pc1 := 2) (v := (0 : Int32)) C d_F_mayWet_1 rfl ic_0 ?_
  refine g_bipush (pc1 := 4) (v := (9 : Int32)) C d_F_mayWet_2 rfl bp_9 ?_
  obtain ⟨r1, hr1, hF⟩ := bnd_some hF
  refine g_callNI (pc1 := 7) (As := [.int x0, .int (0 : Int32), .int (9 : Int32)]) (rest := []) C 3 (c_T_within l x0 (0 : Int32) (9 : Int32) r1 hr1) s_T_within 0 rfl rfl ⟨Nat.le_of_ble_eq_true rfl, Nat.le_of_ble_eq_true rfl⟩ ⟨rfl, rfl⟩ d_F_mayWet_4 rfl rfl (Nat.le_of_ble_eq_true rfl) ?_
  have hg := gd_some hF
  replace hF := hg.2
  exact g_zret C hr hlk (isZ_n hg.1) d_F_mayWet_7 (Option.some.inj hF) rfl
-- TentPegs.wet(I)I
set_option maxHeartbeats 4000000 in
set_option maxRecDepth 100000 in
theorem c_T_wet (l : Launch) (D : va_G) (cs : Nat → ClassId) (a : Nat → Nat) (μ : Mem) (x1 : Int32) (r : Int32) (μ1 : Mem) (hF : F_T_wet μ x1 = some (r, μ1)) : MetI l y_T_wet b_T_wet 3 (some .int) { frames := 2, cells := 0, slots := 0, locals := 42 } D cs (AC a) (WC a cs μ) [.ref (a 0), .int x1] r (WC a cs μ1) := by
  refine met_of rfl (by decide +kernel) (Nat.le_of_ble_eq_true rfl) (fun p e s m below meth c C hK hr hlk => ?_)
  unfold F_T_wet at hF
  show G p l e { frames := 2, cells := 0, slots := 0, locals := 42 } s m _ below meth c _ D (AC a) 3 (WC a cs μ) 0 [(0, .ref (a 0)), (1, .int x1)] []
  refine g_iload_n (pc1 := 1) C d_T_wet_0 rfl rfl 1 rfl ?_
  obtain ⟨r1, hr1, hF⟩ := bnd_some hF
  refine g_callSI (pc1 := 4) (As := [.int x1]) (rest := []) C 1 (c_F_mayWet l x1 r1 hr1) s_F_mayWet kw_20 rfl ⟨Nat.le_of_ble_eq_true rfl, Nat.le_of_ble_eq_true rfl⟩ ⟨rfl, rfl⟩ d_T_wet_1 rfl rfl (Nat.le_of_ble_eq_true rfl) ?_
  refine g_if_ne (pc1 := 7) C 14 d_T_wet_4 rfl (by decide) (fun c1 => ?_) (fun c1 => ?_)
  · replace hF := ite_f hF c1
    refine g_aload_n (pc1 := 15) C d_T_wet_14 rfl rfl 0 rfl ?_
    refine get_WC_0_field (pc1 := 18) C hK kw_12 d_T_wet_15 rfl ?_
    refine get_WC_1_wetness (pc1 := 21) C hK (v := (μ.1 1 1)) rfl kw_21 d_T_wet_18 rfl ?_
    refine g_istore_n (pc1 := 22) (L1 := [(2, .int (μ.1 1 1)), (0, .ref (a 0)), (1, .int x1)]) C d_T_wet_21 rfl rfl (by decide) rfl ?_
    refine g_aload_n (pc1 := 23) C d_T_wet_22 rfl rfl 1 rfl ?_
    refine get_WC_0_field (pc1 := 26) C hK kw_12 d_T_wet_23 rfl ?_
    refine g_iload_n (pc1 := 27) C d_T_wet_26 rfl rfl 2 rfl ?_
    refine put_WC_1_wetness (pc1 := 30) C hK kw_21 d_T_wet_27 rfl ?_
    refine g_iload_n (pc1 := 31) C d_T_wet_30 rfl rfl 0 rfl ?_
    exact g_iret C hr hlk d_T_wet_31 (fst_of hF) (congrArg (WC a cs) (snd_of hF))
  · replace hF := ite_t hF c1
    refine g_aload_n (pc1 := 8) C d_T_wet_7 rfl rfl 0 rfl ?_
    refine g_bipush (pc1 := 10) (v := (-2 : Int32)) C d_T_wet_8 rfl bp_m2 ?_
    obtain ⟨⟨r2, m2⟩, hm2, hF⟩ := bnd_some hF
    refine g_callVI (pc1 := 13) (ws1 := WC a cs m2) (As := [.int (-2 : Int32)]) (rest := []) (b := a 0) C hK 1 (c_T_bad l D cs a μ (-2 : Int32) r2 m2 hm2) s_T_bad kw_15 0 rfl rfl rfl ⟨Nat.le_of_ble_eq_true rfl, Nat.le_of_ble_eq_true rfl⟩ ⟨rfl, rfl⟩ d_T_wet_10 rfl rfl (Nat.le_of_ble_eq_true rfl) ?_
    exact g_iret C hr hlk d_T_wet_13 (fst_of hF) (congrArg (WC a cs) (snd_of hF))
-- TentPegs.isWay(I)Z
set_option maxHeartbeats 4000000 in
set_option maxRecDepth 100000 in
theorem c_T_isWay (l : Launch) (x0 : Int32) (r : Int32) (hF : F_T_isWay x0 = some r) : SetI l y_T_isWay b_T_isWay 1 (some .boolean) { frames := 1, cells := 0, slots := 0, locals := 22 } [.int x0] r := by
  refine met_ofS rfl (by decide +kernel) (Nat.le_of_ble_eq_true rfl) (fun p e s m below meth c C hr hlk => ?_)
  unfold F_T_isWay at hF
  show G p l e { frames := 1, cells := 0, slots := 0, locals := 22 } s m _ below meth c _ (fun _ => 0, fun _ _ => 0) (fun _ => False) 1 [] 0 [(0, .int x0)] []
  refine g_iload_n (pc1 := 1) C d_T_isWay_0 rfl rfl 0 rfl ?_
  refine g_iconst (pc1 := 2) (v := (0 : Int32)) C d_T_isWay_1 rfl ic_0 ?_
  refine g_bipush (pc1 := 4) (v := (7 : Int32)) C d_T_isWay_2 rfl bp_7 ?_
  obtain ⟨r1, hr1, hF⟩ := bnd_some hF
  refine g_callSI (pc1 := 7) (As := [.int x0, .int (0 : Int32), .int (7 : Int32)]) (rest := []) C 3 (c_T_within l x0 (0 : Int32) (7 : Int32) r1 hr1) s_T_within kw_22 rfl ⟨Nat.le_of_ble_eq_true rfl, Nat.le_of_ble_eq_true rfl⟩ ⟨rfl, rfl⟩ d_T_isWay_4 rfl rfl (Nat.le_of_ble_eq_true rfl) ?_
  have hg := gd_some hF
  replace hF := hg.2
  exact g_zret C hr hlk (isZ_n hg.1) d_T_isWay_7 (Option.some.inj hF) rfl
-- TentPegs.has(II)Z
set_option maxHeartbeats 4000000 in
set_option maxRecDepth 100000 in
theorem c_T_has (l : Launch) (x0 : Int32) (x1 : Int32) (r : Int32) (hF : F_T_has x0 x1 = some r) : SetI l y_T_has b_T_has 2 (some .boolean) { frames := 0, cells := 0, slots := 0, locals := 0 } [.int x0, .int x1] r := by
  refine met_ofS rfl (by decide +kernel) (Nat.le_of_ble_eq_true rfl) (fun p e s m below meth c C hr hlk => ?_)
  unfold F_T_has at hF
  show G p l e { frames := 0, cells := 0, slots := 0, locals := 0 } s m _ below meth c _ (fun _ => 0, fun _ _ => 0) (fun _ => False) 2 [] 0 [(0, .int x0), (1, .int x1)] []
  refine g_iload_n (pc1 := 1) C d_T_has_0 rfl rfl 0 rfl ?_
  refine g_iload_n (pc1 := 2) C d_T_has_1 rfl rfl 1 rfl ?_
  refine g_ishr (pc1 := 3) C d_T_has_2 rfl ?_
  refine g_iconst (pc1 := 4) (v := (1 : Int32)) C d_T_has_3 rfl ic_1 ?_
  refine g_iand (pc1 := 5) C d_T_has_4 rfl ?_
  refine g_iconst (pc1 := 6) (v := (1 : Int32)) C d_T_has_5 rfl ic_1 ?_
  refine g_icmp_ne (pc1 := 9) C 13 d_T_has_6 rfl (by decide) (fun c1 => ?_) (fun c1 => ?_)
  · replace hF := ite_f hF c1
    refine g_iconst (pc1 := 14) (v := (0 : Int32)) C d_T_has_13 rfl ic_0 ?_
    exact g_zret C hr hlk rfl d_T_has_14 (Option.some.inj hF) rfl
  · replace hF := ite_t hF c1
    refine g_iconst (pc1 := 10) (v := (1 : Int32)) C d_T_has_9 rfl ic_1 ?_
    refine g_goto C 14 d_T_has_10 (by decide) ?_
    exact g_zret C hr hlk rfl d_T_has_14 (Option.some.inj hF) rfl
-- TentPegs$Field.hasWall(I)Z
set_option maxHeartbeats 4000000 in
set_option maxRecDepth 100000 in
theorem c_F_hasWall (l : Launch) (D : va_G) (cs : Nat → ClassId) (a : Nat → Nat) (μ : Mem) (x1 : Int32) (r : Int32) (hF : F_F_hasWall μ x1 = some r) : MetI l y_F_hasWall b_F_hasWall 2 (some .boolean) { frames := 1, cells := 0, slots := 0, locals := 21 } D cs (AF a) (WF a cs μ) [.ref (a 0), .int x1] r (WF a cs μ) := by
  refine met_of rfl (by decide +kernel) (Nat.le_of_ble_eq_true rfl) (fun p e s m below meth c C hK hr hlk => ?_)
  unfold F_F_hasWall at hF
  show G p l e { frames := 1, cells := 0, slots := 0, locals := 21 } s m _ below meth c _ D (AF a) 2 (WF a cs μ) 0 [(0, .ref (a 0)), (1, .int x1)] []
  refine g_aload_n (pc1 := 1) C d_F_hasWall_0 rfl rfl 0 rfl ?_
  refine get_WF_0_walls (pc1 := 4) C hK (v := (μ.1 0 2)) rfl kw_6 d_F_hasWall_1 rfl ?_
  refine g_iload_n (pc1 := 5) C d_F_hasWall_4 rfl rfl 1 rfl ?_
  obtain ⟨r1, hr1, hF⟩ := bnd_some hF
  refine g_callNI (pc1 := 8) (As := [.int (μ.1 0 2), .int x1]) (rest := []) C 2 (c_T_has l (μ.1 0 2) x1 r1 hr1) s_T_has 1 rfl rfl ⟨Nat.le_of_ble_eq_true rfl, Nat.le_of_ble_eq_true rfl⟩ ⟨rfl, rfl⟩ d_F_hasWall_5 rfl rfl (Nat.le_of_ble_eq_true rfl) ?_
  have hg := gd_some hF
  replace hF := hg.2
  exact g_zret C hr hlk (isZ_n hg.1) d_F_hasWall_8 (Option.some.inj hF) rfl
-- TentPegs.no()I
set_option maxHeartbeats 4000000 in
set_option maxRecDepth 100000 in
theorem c_T_no (l : Launch) (D : va_G) (cs : Nat → ClassId) (a : Nat → Nat) (μ : Mem)  (r : Int32) (μ1 : Mem) (hF : F_T_no μ = some (r, μ1)) : MetI l y_T_no b_T_no 1 (some .int) { frames := 0, cells := 0, slots := 0, locals := 0 } D cs (AC a) (WC a cs μ) [.ref (a 0)] r (WC a cs μ1) := by
  refine met_of rfl (by decide +kernel) (Nat.le_of_ble_eq_true rfl) (fun p e s m below meth c C hK hr hlk => ?_)
  unfold F_T_no at hF
  show G p l e { frames := 0, cells := 0, slots := 0, locals := 0 } s m _ below meth c _ D (AC a) 1 (WC a cs μ) 0 [(0, .ref (a 0))] []
  refine g_aload_n (pc1 := 1) C d_T_no_0 rfl rfl 0 rfl ?_
  refine g_dup (pc1 := 2) C d_T_no_1 rfl rfl ?_
  refine get_WC_0_noes (pc1 := 5) C hK (v := (μ.1 0 11)) rfl kw_23 d_T_no_2 rfl ?_
  refine g_iconst (pc1 := 6) (v := (1 : Int32)) C d_T_no_5 rfl ic_1 ?_
  refine g_iadd (pc1 := 7) C d_T_no_6 rfl ?_
  refine put_WC_0_noes (pc1 := 10) C hK kw_23 d_T_no_7 rfl ?_
  refine g_bipush (pc1 := 12) (v := (-3 : Int32)) C d_T_no_10 rfl bp_m3 ?_
  exact g_iret C hr hlk d_T_no_12 (fst_of hF) (congrArg (WC a cs) (snd_of hF))
-- TentPegs.with(IIZ)I
set_option maxHeartbeats 4000000 in
set_option maxRecDepth 100000 in
theorem c_T_with (l : Launch) (x0 : Int32) (x1 : Int32) (x2 : Int32) (r : Int32) (hF : F_T_with x0 x1 x2 = some r) : SetI l y_T_with b_T_with 3 (some .int) { frames := 0, cells := 0, slots := 0, locals := 0 } [.int x0, .int x1, .int x2] r := by
  refine met_ofS rfl (by decide +kernel) (Nat.le_of_ble_eq_true rfl) (fun p e s m below meth c C hr hlk => ?_)
  unfold F_T_with at hF
  show G p l e { frames := 0, cells := 0, slots := 0, locals := 0 } s m _ below meth c _ (fun _ => 0, fun _ _ => 0) (fun _ => False) 3 [] 0 [(0, .int x0), (1, .int x1), (2, .int x2)] []
  refine g_iload_n (pc1 := 1) C d_T_with_0 rfl rfl 2 rfl ?_
  refine g_if_eq (pc1 := 4) C 12 d_T_with_1 rfl (by decide) (fun c1 => ?_) (fun c1 => ?_)
  · replace hF := ite_t hF c1
    refine g_iload_n (pc1 := 13) C d_T_with_12 rfl rfl 0 rfl ?_
    refine g_iconst (pc1 := 14) (v := (1 : Int32)) C d_T_with_13 rfl ic_1 ?_
    refine g_iload_n (pc1 := 15) C d_T_with_14 rfl rfl 1 rfl ?_
    refine g_ishl (pc1 := 16) C d_T_with_15 rfl ?_
    refine g_iconst (pc1 := 17) (v := (-1 : Int32)) C d_T_with_16 rfl ic_m1 ?_
    refine g_ixor (pc1 := 18) C d_T_with_17 rfl ?_
    refine g_iand (pc1 := 19) C d_T_with_18 rfl ?_
    exact g_iret C hr hlk d_T_with_19 (Option.some.inj hF) rfl
  · replace hF := ite_f hF c1
    refine g_iload_n (pc1 := 5) C d_T_with_4 rfl rfl 0 rfl ?_
    refine g_iconst (pc1 := 6) (v := (1 : Int32)) C d_T_with_5 rfl ic_1 ?_
    refine g_iload_n (pc1 := 7) C d_T_with_6 rfl rfl 1 rfl ?_
    refine g_ishl (pc1 := 8) C d_T_with_7 rfl ?_
    refine g_ior (pc1 := 9) C d_T_with_8 rfl ?_
    refine g_goto C 19 d_T_with_9 (by decide) ?_
    exact g_iret C hr hlk d_T_with_19 (Option.some.inj hF) rfl
-- TentPegs$Field.putWall(IZ)V
set_option maxHeartbeats 4000000 in
set_option maxRecDepth 100000 in
theorem c_F_putWall (l : Launch) (D : va_G) (cs : Nat → ClassId) (a : Nat → Nat) (μ : Mem) (x1 : Int32) (x2 : Int32) (μ1 : Mem) (hF : F_F_putWall μ x1 x2 = some μ1) : MetV l y_F_putWall b_F_putWall 3 none { frames := 1, cells := 0, slots := 0, locals := 22 } D cs (AF a) (WF a cs μ) [.ref (a 0), .int x1, .int x2] (WF a cs μ1) := by
  refine met_of rfl (by decide +kernel) (Nat.le_of_ble_eq_true rfl) (fun p e s m below meth c C hK hr hlk => ?_)
  unfold F_F_putWall at hF
  show G p l e { frames := 1, cells := 0, slots := 0, locals := 22 } s m _ below meth c _ D (AF a) 3 (WF a cs μ) 0 [(0, .ref (a 0)), (1, .int x1), (2, .int x2)] []
  refine g_aload_n (pc1 := 1) C d_F_putWall_0 rfl rfl 0 rfl ?_
  refine g_aload_n (pc1 := 2) C d_F_putWall_1 rfl rfl 0 rfl ?_
  refine get_WF_0_walls (pc1 := 5) C hK (v := (μ.1 0 2)) rfl kw_6 d_F_putWall_2 rfl ?_
  refine g_iload_n (pc1 := 6) C d_F_putWall_5 rfl rfl 1 rfl ?_
  refine g_iload_n (pc1 := 7) C d_F_putWall_6 rfl rfl 2 rfl ?_
  obtain ⟨r1, hr1, hF⟩ := bnd_some hF
  refine g_callNI (pc1 := 10) (As := [.int (μ.1 0 2), .int x1, .int x2]) (rest := [.ref (a 0)]) C 3 (c_T_with l (μ.1 0 2) x1 x2 r1 hr1) s_T_with 2 rfl rfl ⟨Nat.le_of_ble_eq_true rfl, Nat.le_of_ble_eq_true rfl⟩ ⟨rfl, rfl⟩ d_F_putWall_7 rfl rfl (Nat.le_of_ble_eq_true rfl) ?_
  refine put_WF_0_walls (pc1 := 13) C hK kw_6 d_F_putWall_10 rfl ?_
  exact g_vret C hr hlk d_F_putWall_13 (congrArg (WF a cs) (Option.some.inj hF))
-- TentPegs.wall(IZ)I
set_option maxHeartbeats 4000000 in
set_option maxRecDepth 100000 in
theorem c_T_wall (l : Launch) (D : va_G) (cs : Nat → ClassId) (a : Nat → Nat) (μ : Mem) (x1 : Int32) (x2 : Int32) (r : Int32) (μ1 : Mem) (hF : F_T_wall μ x1 x2 = some (r, μ1)) : MetI l y_T_wall b_T_wall 3 (some .int) { frames := 2, cells := 0, slots := 0, locals := 44 } D cs (AC a) (WC a cs μ) [.ref (a 0), .int x1, .int x2] r (WC a cs μ1) := by
  refine met_of rfl (by decide +kernel) (Nat.le_of_ble_eq_true rfl) (fun p e s m below meth c C hK hr hlk => ?_)
  unfold F_T_wall at hF
  show G p l e { frames := 2, cells := 0, slots := 0, locals := 44 } s m _ below meth c _ D (AC a) 3 (WC a cs μ) 0 [(0, .ref (a 0)), (1, .int x1), (2, .int x2)] []
  refine g_iload_n (pc1 := 1) C d_T_wall_0 rfl rfl 1 rfl ?_
  obtain ⟨r1, hr1, hF⟩ := bnd_some hF
  refine g_callSI (pc1 := 4) (As := [.int x1]) (rest := []) C 1 (c_T_isWay l x1 r1 hr1) s_T_isWay kw_24 rfl ⟨Nat.le_of_ble_eq_true rfl, Nat.le_of_ble_eq_true rfl⟩ ⟨rfl, rfl⟩ d_T_wall_1 rfl rfl (Nat.le_of_ble_eq_true rfl) ?_
  refine g_if_ne (pc1 := 7) C 14 d_T_wall_4 rfl (by decide) (fun c1 => ?_) (fun c1 => ?_)
  · replace hF := ite_f hF c1
    refine g_aload_n (pc1 := 15) C d_T_wall_14 rfl rfl 0 rfl ?_
    refine get_WC_0_field (pc1 := 18) C hK kw_12 d_T_wall_15 rfl ?_
    refine g_iload_n (pc1 := 19) C d_T_wall_18 rfl rfl 1 rfl ?_
    obtain ⟨r2, hr2, hF⟩ := bnd_some hF
    refine g_callFI (pc1 := 22) (ws1 := WC a cs μ) (As := [.int x1]) (rest := []) (b := a 1) C hK 1 (frR_1 a cs μ) (c_F_hasWall l D cs (off 1 a) (sub 1 μ) x1 r2 hr2) s_F_hasWall kw_25 1 rfl rfl rfl ⟨Nat.le_of_ble_eq_true rfl, Nat.le_of_ble_eq_true rfl⟩ ⟨rfl, rfl⟩ d_T_wall_19 rfl rfl (Nat.le_of_ble_eq_true rfl) ?_
    refine g_iload_n (pc1 := 23) C d_T_wall_22 rfl rfl 2 rfl ?_
    refine g_icmp_ne (pc1 := 26) C 31 d_T_wall_23 rfl (by decide) (fun c1 => ?_) (fun c1 => ?_)
    · replace hF := ite_f hF c1
      refine g_aload_n (pc1 := 32) C d_T_wall_31 rfl rfl 0 rfl ?_
      refine get_WC_0_field (pc1 := 35) C hK kw_12 d_T_wall_32 rfl ?_
      refine g_iload_n (pc1 := 36) C d_T_wall_35 rfl rfl 1 rfl ?_
      refine g_iload_n (pc1 := 37) C d_T_wall_36 rfl rfl 2 rfl ?_
      obtain ⟨m3, hm3, hF⟩ := bnd_some hF
      refine g_callFV (pc1 := 40) (ws1 := WC a cs (put6 1 0 μ m3)) (As := [.int x1, .int x2]) (rest := []) (b := a 1) C hK 2 (fr_1 a cs μ m3) (c_F_putWall l D cs (off 1 a) (sub 1 μ) x1 x2 m3 hm3) s_F_putWall kw_26 1 rfl rfl rfl ⟨Nat.le_of_ble_eq_true rfl, Nat.le_of_ble_eq_true rfl⟩ ⟨rfl, rfl⟩ d_T_wall_37 rfl rfl (Nat.le_of_ble_eq_true rfl) ?_
      refine g_iconst (pc1 := 41) (v := (1 : Int32)) C d_T_wall_40 rfl ic_1 ?_
      exact g_iret C hr hlk d_T_wall_41 (fst_of hF) (congrArg (WC a cs) (snd_of hF))
    · replace hF := ite_t hF c1
      refine g_aload_n (pc1 := 27) C d_T_wall_26 rfl rfl 0 rfl ?_
      obtain ⟨⟨r4, m4⟩, hm4, hF⟩ := bnd_some hF
      refine g_callVI (pc1 := 30) (ws1 := WC a cs m4) (As := []) (rest := []) (b := a 0) C hK 0 (c_T_no l D cs a μ  r4 m4 hm4) s_T_no kw_27 0 rfl rfl rfl ⟨Nat.le_of_ble_eq_true rfl, Nat.le_of_ble_eq_true rfl⟩ ⟨rfl, rfl⟩ d_T_wall_27 rfl rfl (Nat.le_of_ble_eq_true rfl) ?_
      exact g_iret C hr hlk d_T_wall_30 (fst_of hF) (congrArg (WC a cs) (snd_of hF))
  · replace hF := ite_t hF c1
    refine g_aload_n (pc1 := 8) C d_T_wall_7 rfl rfl 0 rfl ?_
    refine g_bipush (pc1 := 10) (v := (-2 : Int32)) C d_T_wall_8 rfl bp_m2 ?_
    obtain ⟨⟨r5, m5⟩, hm5, hF⟩ := bnd_some hF
    refine g_callVI (pc1 := 13) (ws1 := WC a cs m5) (As := [.int (-2 : Int32)]) (rest := []) (b := a 0) C hK 1 (c_T_bad l D cs a μ (-2 : Int32) r5 m5 hm5) s_T_bad kw_15 0 rfl rfl rfl ⟨Nat.le_of_ble_eq_true rfl, Nat.le_of_ble_eq_true rfl⟩ ⟨rfl, rfl⟩ d_T_wall_10 rfl rfl (Nat.le_of_ble_eq_true rfl) ?_
    exact g_iret C hr hlk d_T_wall_13 (fst_of hF) (congrArg (WC a cs) (snd_of hF))
-- TentPegs$Field.mayBet(II)Z
set_option maxHeartbeats 4000000 in
set_option maxRecDepth 100000 in
theorem c_F_mayBet (l : Launch) (x0 : Int32) (x1 : Int32) (r : Int32) (hF : F_F_mayBet x0 x1 = some r) : SetI l y_F_mayBet b_F_mayBet 2 (some .boolean) { frames := 2, cells := 0, slots := 0, locals := 42 } [.int x0, .int x1] r := by
  refine met_ofS rfl (by decide +kernel) (Nat.le_of_ble_eq_true rfl) (fun p e s m below meth c C hr hlk => ?_)
  unfold F_F_mayBet at hF
  show G p l e { frames := 2, cells := 0, slots := 0, locals := 42 } s m _ below meth c _ (fun _ => 0, fun _ _ => 0) (fun _ => False) 2 [] 0 [(0, .int x0), (1, .int x1)] []
  refine g_iload_n (pc1 := 1) C d_F_mayBet_0 rfl rfl 0 rfl ?_
  obtain ⟨r1, hr1, hF⟩ := bnd_some hF
  refine g_callNI (pc1 := 4) (As := [.int x0]) (rest := []) C 1 (c_T_isWay l x0 r1 hr1) s_T_isWay 3 rfl rfl ⟨Nat.le_of_ble_eq_true rfl, Nat.le_of_ble_eq_true rfl⟩ ⟨rfl, rfl⟩ d_F_mayBet_1 rfl rfl (Nat.le_of_ble_eq_true rfl) ?_
  refine g_if_eq (pc1 := 7) C 21 d_F_mayBet_4 rfl (by decide) (fun c1 => ?_) (fun c1 => ?_)
  · replace hF := ite_t hF c1
    refine g_iconst (pc1 := 22) (v := (0 : Int32)) C d_F_mayBet_21 rfl ic_0 ?_
    exact g_zret C hr hlk rfl d_F_mayBet_22 (Option.some.inj hF) rfl
  · replace hF := ite_f hF c1
    refine g_iload_n (pc1 := 8) C d_F_mayBet_7 rfl rfl 1 rfl ?_
    refine g_iconst (pc1 := 9) (v := (0 : Int32)) C d_F_mayBet_8 rfl ic_0 ?_
    refine g_bipush (pc1 := 11) (v := (20 : Int32)) C d_F_mayBet_9 rfl bp_20 ?_
    obtain ⟨r2, hr2, hF⟩ := bnd_some hF
    refine g_callNI (pc1 := 14) (As := [.int x1, .int (0 : Int32), .int (20 : Int32)]) (rest := []) C 3 (c_T_within l x1 (0 : Int32) (20 : Int32) r2 hr2) s_T_within 0 rfl rfl ⟨Nat.le_of_ble_eq_true rfl, Nat.le_of_ble_eq_true rfl⟩ ⟨rfl, rfl⟩ d_F_mayBet_11 rfl rfl (Nat.le_of_ble_eq_true rfl) ?_
    refine g_if_eq (pc1 := 17) C 21 d_F_mayBet_14 rfl (by decide) (fun c1 => ?_) (fun c1 => ?_)
    · replace hF := ite_t hF c1
      refine g_iconst (pc1 := 22) (v := (0 : Int32)) C d_F_mayBet_21 rfl ic_0 ?_
      exact g_zret C hr hlk rfl d_F_mayBet_22 (Option.some.inj hF) rfl
    · replace hF := ite_f hF c1
      refine g_iconst (pc1 := 18) (v := (1 : Int32)) C d_F_mayBet_17 rfl ic_1 ?_
      refine g_goto C 22 d_F_mayBet_18 (by decide) ?_
      exact g_zret C hr hlk rfl d_F_mayBet_22 (Option.some.inj hF) rfl
-- TentPegs.odds(II)I
set_option maxHeartbeats 4000000 in
set_option maxRecDepth 100000 in
theorem c_T_odds (l : Launch) (D : va_G) (cs : Nat → ClassId) (a : Nat → Nat) (μ : Mem) (x1 : Int32) (x2 : Int32) (r : Int32) (μ1 : Mem) (hF : F_T_odds μ x1 x2 = some (r, μ1)) : MetI l y_T_odds b_T_odds 4 (some .int) { frames := 3, cells := 0, slots := 0, locals := 63 } D cs (AC a) (WC a cs μ) [.ref (a 0), .int x1, .int x2] r (WC a cs μ1) := by
  refine met_of rfl (by decide +kernel) (Nat.le_of_ble_eq_true rfl) (fun p e s m below meth c C hK hr hlk => ?_)
  unfold F_T_odds at hF
  show G p l e { frames := 3, cells := 0, slots := 0, locals := 63 } s m _ below meth c _ D (AC a) 4 (WC a cs μ) 0 [(0, .ref (a 0)), (1, .int x1), (2, .int x2)] []
  refine g_iload_n (pc1 := 1) C d_T_odds_0 rfl rfl 1 rfl ?_
  refine g_iload_n (pc1 := 2) C d_T_odds_1 rfl rfl 2 rfl ?_
  obtain ⟨r1, hr1, hF⟩ := bnd_some hF
  refine g_callSI (pc1 := 5) (As := [.int x1, .int x2]) (rest := []) C 2 (c_F_mayBet l x1 x2 r1 hr1) s_F_mayBet kw_28 rfl ⟨Nat.le_of_ble_eq_true rfl, Nat.le_of_ble_eq_true rfl⟩ ⟨rfl, rfl⟩ d_T_odds_2 rfl rfl (Nat.le_of_ble_eq_true rfl) ?_
  refine g_if_ne (pc1 := 8) C 15 d_T_odds_5 rfl (by decide) (fun c1 => ?_) (fun c1 => ?_)
  · replace hF := ite_f hF c1
    refine g_aload_n (pc1 := 16) C d_T_odds_15 rfl rfl 0 rfl ?_
    refine get_WC_0_field (pc1 := 19) C hK kw_12 d_T_odds_16 rfl ?_
    refine get_WC_1_chances (pc1 := 22) C hK kw_29 d_T_odds_19 rfl ?_
    refine g_iload_n (pc1 := 23) C d_T_odds_22 rfl rfl 1 rfl ?_
    have hg := gd_some hF
    replace hF := hg.2
    refine g_iald (pc1 := 24) C hK 5 (f := (μ.1 5)) rfl hg.1 d_T_odds_23 rfl ?_
    refine g_istore_n (pc1 := 25) (L1 := [(3, .int ((μ.1 5) x1.toNatClampNeg)), (0, .ref (a 0)), (1, .int x1), (2, .int x2)]) C d_T_odds_24 rfl rfl (by decide) rfl ?_
    refine g_aload_n (pc1 := 26) C d_T_odds_25 rfl rfl 1 rfl ?_
    refine get_WC_0_field (pc1 := 29) C hK kw_12 d_T_odds_26 rfl ?_
    refine get_WC_1_chances (pc1 := 32) C hK kw_29 d_T_odds_29 rfl ?_
    refine g_iload_n (pc1 := 33) C d_T_odds_32 rfl rfl 2 rfl ?_
    refine g_iload_n (pc1 := 34) C d_T_odds_33 rfl rfl 3 rfl ?_
    have hg := gd_some hF
    replace hF := hg.2
    refine g_iast (pc1 := 35) (ws1 := WC a cs (stI μ 5 x1.toNatClampNeg x2)) C hK 5 (f := (μ.1 5)) rfl hg.1 (set_WC_5 _ _ _ _ _) d_T_odds_34 rfl ?_
    refine g_iload_n (pc1 := 36) C d_T_odds_35 rfl rfl 0 rfl ?_
    exact g_iret C hr hlk d_T_odds_36 (fst_of hF) (congrArg (WC a cs) (snd_of hF))
  · replace hF := ite_t hF c1
    refine g_aload_n (pc1 := 9) C d_T_odds_8 rfl rfl 0 rfl ?_
    refine g_bipush (pc1 := 11) (v := (-2 : Int32)) C d_T_odds_9 rfl bp_m2 ?_
    obtain ⟨⟨r2, m2⟩, hm2, hF⟩ := bnd_some hF
    refine g_callVI (pc1 := 14) (ws1 := WC a cs m2) (As := [.int (-2 : Int32)]) (rest := []) (b := a 0) C hK 1 (c_T_bad l D cs a μ (-2 : Int32) r2 m2 hm2) s_T_bad kw_15 0 rfl rfl rfl ⟨Nat.le_of_ble_eq_true rfl, Nat.le_of_ble_eq_true rfl⟩ ⟨rfl, rfl⟩ d_T_odds_11 rfl rfl (Nat.le_of_ble_eq_true rfl) ?_
    exact g_iret C hr hlk d_T_odds_14 (fst_of hF) (congrArg (WC a cs) (snd_of hF))
-- TentPegs.full()I
set_option maxHeartbeats 4000000 in
set_option maxRecDepth 100000 in
theorem c_T_full (l : Launch) (D : va_G) (cs : Nat → ClassId) (a : Nat → Nat) (μ : Mem)  (r : Int32) (μ1 : Mem) (hF : F_T_full μ = some (r, μ1)) : MetI l y_T_full b_T_full 1 (some .int) { frames := 0, cells := 0, slots := 0, locals := 0 } D cs (AC a) (WC a cs μ) [.ref (a 0)] r (WC a cs μ1) := by
  refine met_of rfl (by decide +kernel) (Nat.le_of_ble_eq_true rfl) (fun p e s m below meth c C hK hr hlk => ?_)
  unfold F_T_full at hF
  show G p l e { frames := 0, cells := 0, slots := 0, locals := 0 } s m _ below meth c _ D (AC a) 1 (WC a cs μ) 0 [(0, .ref (a 0))] []
  refine g_aload_n (pc1 := 1) C d_T_full_0 rfl rfl 0 rfl ?_
  refine g_dup (pc1 := 2) C d_T_full_1 rfl rfl ?_
  refine get_WC_0_fulls (pc1 := 5) C hK (v := (μ.1 0 12)) rfl kw_30 d_T_full_2 rfl ?_
  refine g_iconst (pc1 := 6) (v := (1 : Int32)) C d_T_full_5 rfl ic_1 ?_
  refine g_iadd (pc1 := 7) C d_T_full_6 rfl ?_
  refine put_WC_0_fulls (pc1 := 10) C hK kw_30 d_T_full_7 rfl ?_
  refine g_bipush (pc1 := 12) (v := (-4 : Int32)) C d_T_full_10 rfl bp_m4 ?_
  exact g_iret C hr hlk d_T_full_12 (fst_of hF) (congrArg (WC a cs) (snd_of hF))
-- TentPegs.type(I)I
set_option maxHeartbeats 4000000 in
set_option maxRecDepth 100000 in
theorem c_T_type (l : Launch) (D : va_G) (cs : Nat → ClassId) (a : Nat → Nat) (μ : Mem) (x1 : Int32) (r : Int32) (μ1 : Mem) (hF : F_T_type μ x1 = some (r, μ1)) : MetI l y_T_type b_T_type 2 (some .int) { frames := 1, cells := 0, slots := 0, locals := 22 } D cs (AC a) (WC a cs μ) [.ref (a 0), .int x1] r (WC a cs μ1) := by
  refine met_of rfl (by decide +kernel) (Nat.le_of_ble_eq_true rfl) (fun p e s m below meth c C hK hr hlk => ?_)
  unfold F_T_type at hF
  show G p l e { frames := 1, cells := 0, slots := 0, locals := 22 } s m _ below meth c _ D (AC a) 2 (WC a cs μ) 0 [(0, .ref (a 0)), (1, .int x1)] []
  refine g_iload_n (pc1 := 1) C d_T_type_0 rfl rfl 1 rfl ?_
  refine g_iconst (pc1 := 2) (v := (0 : Int32)) C d_T_type_1 rfl ic_0 ?_
  refine g_bipush (pc1 := 4) (v := (127 : Int32)) C d_T_type_2 rfl bp_127 ?_
  obtain ⟨r1, hr1, hF⟩ := bnd_some hF
  refine g_callSI (pc1 := 7) (As := [.int x1, .int (0 : Int32), .int (127 : Int32)]) (rest := []) C 3 (c_T_within l x1 (0 : Int32) (127 : Int32) r1 hr1) s_T_within kw_22 rfl ⟨Nat.le_of_ble_eq_true rfl, Nat.le_of_ble_eq_true rfl⟩ ⟨rfl, rfl⟩ d_T_type_4 rfl rfl (Nat.le_of_ble_eq_true rfl) ?_
  refine g_if_ne (pc1 := 10) C 17 d_T_type_7 rfl (by decide) (fun c1 => ?_) (fun c1 => ?_)
  · replace hF := ite_f hF c1
    refine g_aload_n (pc1 := 18) C d_T_type_17 rfl rfl 0 rfl ?_
    refine get_WC_0_typed (pc1 := 21) C hK (v := (μ.1 0 7)) rfl kw_31 d_T_type_18 rfl ?_
    refine g_sipush (pc1 := 24) (v := (150 : Int32)) C d_T_type_21 rfl sp_150 ?_
    refine g_icmp_lt (pc1 := 27) C 32 d_T_type_24 rfl (by decide) (fun c1 => ?_) (fun c1 => ?_)
    · replace hF := ite_t hF c1
      refine g_aload_n (pc1 := 33) C d_T_type_32 rfl rfl 0 rfl ?_
      refine get_WC_0_text (pc1 := 36) C hK kw_32 d_T_type_33 rfl ?_
      refine g_aload_n (pc1 := 37) C d_T_type_36 rfl rfl 0 rfl ?_
      refine get_WC_0_typed (pc1 := 40) C hK (v := (μ.1 0 7)) rfl kw_31 d_T_type_37 rfl ?_
      refine g_iload_n (pc1 := 41) C d_T_type_40 rfl rfl 1 rfl ?_
      refine g_i2b (pc1 := 42) C d_T_type_41 rfl ?_
      have hg := gd_some hF
      replace hF := hg.2
      refine g_bast (pc1 := 43) (ws1 := WC a cs (stI μ 13 (μ.1 0 7).toNatClampNeg (vp_nar .byte (x1.toInt8.toInt32)))) C hK 13 (f := (μ.1 13)) rfl hg.1 (set_WC_13 _ _ _ _ _) d_T_type_42 rfl ?_
      refine g_aload_n (pc1 := 44) C d_T_type_43 rfl rfl 0 rfl ?_
      refine g_dup (pc1 := 45) C d_T_type_44 rfl rfl ?_
      refine get_WC_0_typed (pc1 := 48) C hK (v := (μ.1 0 7)) rfl kw_31 d_T_type_45 rfl ?_
      refine g_iconst (pc1 := 49) (v := (1 : Int32)) C d_T_type_48 rfl ic_1 ?_
      refine g_iadd (pc1 := 50) C d_T_type_49 rfl ?_
      refine put_WC_0_typed (pc1 := 53) C hK kw_31 d_T_type_50 rfl ?_
      refine g_aload_n (pc1 := 54) C d_T_type_53 rfl rfl 0 rfl ?_
      refine get_WC_0_typed (pc1 := 57) C hK (v := ((μ.1 0 7) + (1 : Int32))) rfl kw_31 d_T_type_54 rfl ?_
      exact g_iret C hr hlk d_T_type_57 (fst_of hF) (congrArg (WC a cs) (snd_of hF))
    · replace hF := ite_f hF c1
      refine g_aload_n (pc1 := 28) C d_T_type_27 rfl rfl 0 rfl ?_
      obtain ⟨⟨r2, m2⟩, hm2, hF⟩ := bnd_some hF
      refine g_callVI (pc1 := 31) (ws1 := WC a cs m2) (As := []) (rest := []) (b := a 0) C hK 0 (c_T_full l D cs a μ  r2 m2 hm2) s_T_full kw_33 0 rfl rfl rfl ⟨Nat.le_of_ble_eq_true rfl, Nat.le_of_ble_eq_true rfl⟩ ⟨rfl, rfl⟩ d_T_type_28 rfl rfl (Nat.le_of_ble_eq_true rfl) ?_
      exact g_iret C hr hlk d_T_type_31 (fst_of hF) (congrArg (WC a cs) (snd_of hF))
  · replace hF := ite_t hF c1
    refine g_aload_n (pc1 := 11) C d_T_type_10 rfl rfl 0 rfl ?_
    refine g_bipush (pc1 := 13) (v := (-2 : Int32)) C d_T_type_11 rfl bp_m2 ?_
    obtain ⟨⟨r3, m3⟩, hm3, hF⟩ := bnd_some hF
    refine g_callVI (pc1 := 16) (ws1 := WC a cs m3) (As := [.int (-2 : Int32)]) (rest := []) (b := a 0) C hK 1 (c_T_bad l D cs a μ (-2 : Int32) r3 m3 hm3) s_T_bad kw_15 0 rfl rfl rfl ⟨Nat.le_of_ble_eq_true rfl, Nat.le_of_ble_eq_true rfl⟩ ⟨rfl, rfl⟩ d_T_type_13 rfl rfl (Nat.le_of_ble_eq_true rfl) ?_
    exact g_iret C hr hlk d_T_type_16 (fst_of hF) (congrArg (WC a cs) (snd_of hF))
-- TentPegs.clear()I
set_option maxHeartbeats 4000000 in
set_option maxRecDepth 100000 in
theorem c_T_clear (l : Launch) (D : va_G) (cs : Nat → ClassId) (a : Nat → Nat) (μ : Mem)  (r : Int32) (μ1 : Mem) (hF : F_T_clear μ = some (r, μ1)) : MetI l y_T_clear b_T_clear 2 (some .int) { frames := 0, cells := 0, slots := 0, locals := 0 } D cs (AC a) (WC a cs μ) [.ref (a 0)] r (WC a cs μ1) := by
  refine met_of rfl (by decide +kernel) (Nat.le_of_ble_eq_true rfl) (fun p e s m below meth c C hK hr hlk => ?_)
  unfold F_T_clear at hF
  show G p l e { frames := 0, cells := 0, slots := 0, locals := 0 } s m _ below meth c _ D (AC a) 2 (WC a cs μ) 0 [(0, .ref (a 0))] []
  refine g_aload_n (pc1 := 1) C d_T_clear_0 rfl rfl 0 rfl ?_
  refine get_WC_0_typed (pc1 := 4) C hK (v := (μ.1 0 7)) rfl kw_31 d_T_clear_1 rfl ?_
  refine g_istore_n (pc1 := 5) (L1 := [(1, .int (μ.1 0 7)), (0, .ref (a 0))]) C d_T_clear_4 rfl rfl (by decide) rfl ?_
  refine g_aload_n (pc1 := 6) C d_T_clear_5 rfl rfl 1 rfl ?_
  refine g_iconst (pc1 := 7) (v := (0 : Int32)) C d_T_clear_6 rfl ic_0 ?_
  refine put_WC_0_typed (pc1 := 10) C hK kw_31 d_T_clear_7 rfl ?_
  refine g_iload_n (pc1 := 11) C d_T_clear_10 rfl rfl 0 rfl ?_
  exact g_iret C hr hlk d_T_clear_11 (fst_of hF) (congrArg (WC a cs) (snd_of hF))
-- TentPegs.isStrength(I)Z
set_option maxHeartbeats 4000000 in
set_option maxRecDepth 100000 in
theorem c_T_isStrength (l : Launch) (x0 : Int32) (r : Int32) (hF : F_T_isStrength x0 = some r) : SetI l y_T_isStrength b_T_isStrength 1 (some .boolean) { frames := 1, cells := 0, slots := 0, locals := 22 } [.int x0] r := by
  refine met_ofS rfl (by decide +kernel) (Nat.le_of_ble_eq_true rfl) (fun p e s m below meth c C hr hlk => ?_)
  unfold F_T_isStrength at hF
  show G p l e { frames := 1, cells := 0, slots := 0, locals := 22 } s m _ below meth c _ (fun _ => 0, fun _ _ => 0) (fun _ => False) 1 [] 0 [(0, .int x0)] []
  refine g_iload_n (pc1 := 1) C d_T_isStrength_0 rfl rfl 0 rfl ?_
  refine g_iconst (pc1 := 2) (v := (0 : Int32)) C d_T_isStrength_1 rfl ic_0 ?_
  refine g_bipush (pc1 := 4) (v := (60 : Int32)) C d_T_isStrength_2 rfl bp_60 ?_
  obtain ⟨r1, hr1, hF⟩ := bnd_some hF
  refine g_callSI (pc1 := 7) (As := [.int x0, .int (0 : Int32), .int (60 : Int32)]) (rest := []) C 3 (c_T_within l x0 (0 : Int32) (60 : Int32) r1 hr1) s_T_within kw_22 rfl ⟨Nat.le_of_ble_eq_true rfl, Nat.le_of_ble_eq_true rfl⟩ ⟨rfl, rfl⟩ d_T_isStrength_4 rfl rfl (Nat.le_of_ble_eq_true rfl) ?_
  have hg := gd_some hF
  replace hF := hg.2
  exact g_zret C hr hlk (isZ_n hg.1) d_T_isStrength_7 (Option.some.inj hF) rfl
-- TentPegs.isGust(II)Z
set_option maxHeartbeats 4000000 in
set_option maxRecDepth 100000 in
theorem c_T_isGust (l : Launch) (x0 : Int32) (x1 : Int32) (r : Int32) (hF : F_T_isGust x0 x1 = some r) : SetI l y_T_isGust b_T_isGust 2 (some .boolean) { frames := 2, cells := 0, slots := 0, locals := 42 } [.int x0, .int x1] r := by
  refine met_ofS rfl (by decide +kernel) (Nat.le_of_ble_eq_true rfl) (fun p e s m below meth c C hr hlk => ?_)
  unfold F_T_isGust at hF
  show G p l e { frames := 2, cells := 0, slots := 0, locals := 42 } s m _ below meth c _ (fun _ => 0, fun _ _ => 0) (fun _ => False) 2 [] 0 [(0, .int x0), (1, .int x1)] []
  refine g_iload_n (pc1 := 1) C d_T_isGust_0 rfl rfl 0 rfl ?_
  obtain ⟨r1, hr1, hF⟩ := bnd_some hF
  refine g_callSI (pc1 := 4) (As := [.int x0]) (rest := []) C 1 (c_T_isWay l x0 r1 hr1) s_T_isWay kw_24 rfl ⟨Nat.le_of_ble_eq_true rfl, Nat.le_of_ble_eq_true rfl⟩ ⟨rfl, rfl⟩ d_T_isGust_1 rfl rfl (Nat.le_of_ble_eq_true rfl) ?_
  refine g_if_eq (pc1 := 7) C 18 d_T_isGust_4 rfl (by decide) (fun c1 => ?_) (fun c1 => ?_)
  · replace hF := ite_t hF c1
    refine g_iconst (pc1 := 19) (v := (0 : Int32)) C d_T_isGust_18 rfl ic_0 ?_
    exact g_zret C hr hlk rfl d_T_isGust_19 (Option.some.inj hF) rfl
  · replace hF := ite_f hF c1
    refine g_iload_n (pc1 := 8) C d_T_isGust_7 rfl rfl 1 rfl ?_
    obtain ⟨r2, hr2, hF⟩ := bnd_some hF
    refine g_callSI (pc1 := 11) (As := [.int x1]) (rest := []) C 1 (c_T_isStrength l x1 r2 hr2) s_T_isStrength kw_34 rfl ⟨Nat.le_of_ble_eq_true rfl, Nat.le_of_ble_eq_true rfl⟩ ⟨rfl, rfl⟩ d_T_isGust_8 rfl rfl (Nat.le_of_ble_eq_true rfl) ?_
    refine g_if_eq (pc1 := 14) C 18 d_T_isGust_11 rfl (by decide) (fun c1 => ?_) (fun c1 => ?_)
    · replace hF := ite_t hF c1
      refine g_iconst (pc1 := 19) (v := (0 : Int32)) C d_T_isGust_18 rfl ic_0 ?_
      exact g_zret C hr hlk rfl d_T_isGust_19 (Option.some.inj hF) rfl
    · replace hF := ite_f hF c1
      refine g_iconst (pc1 := 15) (v := (1 : Int32)) C d_T_isGust_14 rfl ic_1 ?_
      refine g_goto C 19 d_T_isGust_15 (by decide) ?_
      exact g_zret C hr hlk rfl d_T_isGust_19 (Option.some.inj hF) rfl
-- java/lang/Integer.bitCount(I)I
set_option maxHeartbeats 4000000 in
set_option maxRecDepth 100000 in
theorem c_JI_bitCount (l : Launch) (x0 : Int32) (r : Int32) (hF : F_JI_bitCount x0 = some r) : SetI l y_JI_bitCount b_JI_bitCount 1 (some .int) { frames := 0, cells := 0, slots := 0, locals := 0 } [.int x0] r := by
  refine met_ofS rfl (by decide +kernel) (Nat.le_of_ble_eq_true rfl) (fun p e s m below meth c C hr hlk => ?_)
  unfold F_JI_bitCount at hF
  show G p l e { frames := 0, cells := 0, slots := 0, locals := 0 } s m _ below meth c _ (fun _ => 0, fun _ _ => 0) (fun _ => False) 1 [] 0 [(0, .int x0)] []
  refine g_iload_n (pc1 := 1) C d_JI_bitCount_0 rfl rfl 0 rfl ?_
  refine g_iload_n (pc1 := 2) C d_JI_bitCount_1 rfl rfl 0 rfl ?_
  refine g_iconst (pc1 := 3) (v := (1 : Int32)) C d_JI_bitCount_2 rfl ic_1 ?_
  refine g_iushr (pc1 := 4) C d_JI_bitCount_3 rfl ?_
  refine g_ldcw (pc1 := 7) (v := (1431655765 : Int32)) C d_JI_bitCount_4 rfl kw_35 ?_
  refine g_iand (pc1 := 8) C d_JI_bitCount_7 rfl ?_
  refine g_isub (pc1 := 9) C d_JI_bitCount_8 rfl ?_
  refine g_istore_n (pc1 := 10) (L1 := [(0, .int (x0 - (((x0.toUInt32 >>> ((1 : Int32).toUInt32 &&& Int32.toUInt32 31)).toInt32) &&& (1431655765 : Int32))))]) C d_JI_bitCount_9 rfl rfl (by decide) rfl ?_
  refine g_iload_n (pc1 := 11) C d_JI_bitCount_10 rfl rfl 0 rfl ?_
  refine g_ldcw (pc1 := 14) (v := (858993459 : Int32)) C d_JI_bitCount_11 rfl kw_36 ?_
  refine g_iand (pc1 := 15) C d_JI_bitCount_14 rfl ?_
  refine g_iload_n (pc1 := 16) C d_JI_bitCount_15 rfl rfl 0 rfl ?_
  refine g_iconst (pc1 := 17) (v := (2 : Int32)) C d_JI_bitCount_16 rfl ic_2 ?_
  refine g_iushr (pc1 := 18) C d_JI_bitCount_17 rfl ?_
  refine g_ldcw (pc1 := 21) (v := (858993459 : Int32)) C d_JI_bitCount_18 rfl kw_36 ?_
  refine g_iand (pc1 := 22) C d_JI_bitCount_21 rfl ?_
  refine g_iadd (pc1 := 23) C d_JI_bitCount_22 rfl ?_
  refine g_istore_n (pc1 := 24) (L1 := [(0, .int (((x0 - (((x0.toUInt32 >>> ((1 : Int32).toUInt32 &&& Int32.toUInt32 31)).toInt32) &&& (1431655765 : Int32))) &&& (858993459 : Int32)) + ((((x0 - (((x0.toUInt32 >>> ((1 : Int32).toUInt32 &&& Int32.toUInt32 31)).toInt32) &&& (1431655765 : Int32))).toUInt32 >>> ((2 : Int32).toUInt32 &&& Int32.toUInt32 31)).toInt32) &&& (858993459 : Int32))))]) C d_JI_bitCount_23 rfl rfl (by decide) rfl ?_
  refine g_iload_n (pc1 := 25) C d_JI_bitCount_24 rfl rfl 0 rfl ?_
  refine g_iload_n (pc1 := 26) C d_JI_bitCount_25 rfl rfl 0 rfl ?_
  refine g_iconst (pc1 := 27) (v := (4 : Int32)) C d_JI_bitCount_26 rfl ic_4 ?_
  refine g_iushr (pc1 := 28) C d_JI_bitCount_27 rfl ?_
  refine g_iadd (pc1 := 29) C d_JI_bitCount_28 rfl ?_
  refine g_ldcw (pc1 := 32) (v := (252645135 : Int32)) C d_JI_bitCount_29 rfl kw_37 ?_
  refine g_iand (pc1 := 33) C d_JI_bitCount_32 rfl ?_
  refine g_istore_n (pc1 := 34) (L1 := [(0, .int (((((x0 - (((x0.toUInt32 >>> ((1 : Int32).toUInt32 &&& Int32.toUInt32 31)).toInt32) &&& (1431655765 : Int32))) &&& (858993459 : Int32)) + ((((x0 - (((x0.toUInt32 >>> ((1 : Int32).toUInt32 &&& Int32.toUInt32 31)).toInt32) &&& (1431655765 : Int32))).toUInt32 >>> ((2 : Int32).toUInt32 &&& Int32.toUInt32 31)).toInt32) &&& (858993459 : Int32))) + (((((x0 - (((x0.toUInt32 >>> ((1 : Int32).toUInt32 &&& Int32.toUInt32 31)).toInt32) &&& (1431655765 : Int32))) &&& (858993459 : Int32)) + ((((x0 - (((x0.toUInt32 >>> ((1 : Int32).toUInt32 &&& Int32.toUInt32 31)).toInt32) &&& (1431655765 : Int32))).toUInt32 >>> ((2 : Int32).toUInt32 &&& Int32.toUInt32 31)).toInt32) &&& (858993459 : Int32))).toUInt32 >>> ((4 : Int32).toUInt32 &&& Int32.toUInt32 31)).toInt32)) &&& (252645135 : Int32)))]) C d_JI_bitCount_33 rfl rfl (by decide) rfl ?_
  refine g_iload_n (pc1 := 35) C d_JI_bitCount_34 rfl rfl 0 rfl ?_
  refine g_iload_n (pc1 := 36) C d_JI_bitCount_35 rfl rfl 0 rfl ?_
  refine g_bipush (pc1 := 38) (v := (8 : Int32)) C d_JI_bitCount_36 rfl bp_8 ?_
  refine g_iushr (pc1 := 39) C d_JI_bitCount_38 rfl ?_
  refine g_iadd (pc1 := 40) C d_JI_bitCount_39 rfl ?_
  refine g_istore_n (pc1 := 41) (L1 := [(0, .int ((((((x0 - (((x0.toUInt32 >>> ((1 : Int32).toUInt32 &&& Int32.toUInt32 31)).toInt32) &&& (1431655765 : Int32))) &&& (858993459 : Int32)) + ((((x0 - (((x0.toUInt32 >>> ((1 : Int32).toUInt32 &&& Int32.toUInt32 31)).toInt32) &&& (1431655765 : Int32))).toUInt32 >>> ((2 : Int32).toUInt32 &&& Int32.toUInt32 31)).toInt32) &&& (858993459 : Int32))) + (((((x0 - (((x0.toUInt32 >>> ((1 : Int32).toUInt32 &&& Int32.toUInt32 31)).toInt32) &&& (1431655765 : Int32))) &&& (858993459 : Int32)) + ((((x0 - (((x0.toUInt32 >>> ((1 : Int32).toUInt32 &&& Int32.toUInt32 31)).toInt32) &&& (1431655765 : Int32))).toUInt32 >>> ((2 : Int32).toUInt32 &&& Int32.toUInt32 31)).toInt32) &&& (858993459 : Int32))).toUInt32 >>> ((4 : Int32).toUInt32 &&& Int32.toUInt32 31)).toInt32)) &&& (252645135 : Int32)) + (((((((x0 - (((x0.toUInt32 >>> ((1 : Int32).toUInt32 &&& Int32.toUInt32 31)).toInt32) &&& (1431655765 : Int32))) &&& (858993459 : Int32)) + ((((x0 - (((x0.toUInt32 >>> ((1 : Int32).toUInt32 &&& Int32.toUInt32 31)).toInt32) &&& (1431655765 : Int32))).toUInt32 >>> ((2 : Int32).toUInt32 &&& Int32.toUInt32 31)).toInt32) &&& (858993459 : Int32))) + (((((x0 - (((x0.toUInt32 >>> ((1 : Int32).toUInt32 &&& Int32.toUInt32 31)).toInt32) &&& (1431655765 : Int32))) &&& (858993459 : Int32)) + ((((x0 - (((x0.toUInt32 >>> ((1 : Int32).toUInt32 &&& Int32.toUInt32 31)).toInt32) &&& (1431655765 : Int32))).toUInt32 >>> ((2 : Int32).toUInt32 &&& Int32.toUInt32 31)).toInt32) &&& (858993459 : Int32))).toUInt32 >>> ((4 : Int32).toUInt32 &&& Int32.toUInt32 31)).toInt32)) &&& (252645135 : Int32)).toUInt32 >>> ((8 : Int32).toUInt32 &&& Int32.toUInt32 31)).toInt32)))]) C d_JI_bitCount_40 rfl rfl (by decide) rfl ?_
  refine g_iload_n (pc1 := 42) C d_JI_bitCount_41 rfl rfl 0 rfl ?_
  refine g_iload_n (pc1 := 43) C d_JI_bitCount_42 rfl rfl 0 rfl ?_
  refine g_bipush (pc1 := 45) (v := (16 : Int32)) C d_JI_bitCount_43 rfl bp_16 ?_
  refine g_iushr (pc1 := 46) C d_JI_bitCount_45 rfl ?_
  refine g_iadd (pc1 := 47) C d_JI_bitCount_46 rfl ?_
  refine g_istore_n (pc1 := 48) (L1 := [(0, .int (((((((x0 - (((x0.toUInt32 >>> ((1 : Int32).toUInt32 &&& Int32.toUInt32 31)).toInt32) &&& (1431655765 : Int32))) &&& (858993459 : Int32)) + ((((x0 - (((x0.toUInt32 >>> ((1 : Int32).toUInt32 &&& Int32.toUInt32 31)).toInt32) &&& (1431655765 : Int32))).toUInt32 >>> ((2 : Int32).toUInt32 &&& Int32.toUInt32 31)).toInt32) &&& (858993459 : Int32))) + (((((x0 - (((x0.toUInt32 >>> ((1 : Int32).toUInt32 &&& Int32.toUInt32 31)).toInt32) &&& (1431655765 : Int32))) &&& (858993459 : Int32)) + ((((x0 - (((x0.toUInt32 >>> ((1 : Int32).toUInt32 &&& Int32.toUInt32 31)).toInt32) &&& (1431655765 : Int32))).toUInt32 >>> ((2 : Int32).toUInt32 &&& Int32.toUInt32 31)).toInt32) &&& (858993459 : Int32))).toUInt32 >>> ((4 : Int32).toUInt32 &&& Int32.toUInt32 31)).toInt32)) &&& (252645135 : Int32)) + (((((((x0 - (((x0.toUInt32 >>> ((1 : Int32).toUInt32 &&& Int32.toUInt32 31)).toInt32) &&& (1431655765 : Int32))) &&& (858993459 : Int32)) + ((((x0 - (((x0.toUInt32 >>> ((1 : Int32).toUInt32 &&& Int32.toUInt32 31)).toInt32) &&& (1431655765 : Int32))).toUInt32 >>> ((2 : Int32).toUInt32 &&& Int32.toUInt32 31)).toInt32) &&& (858993459 : Int32))) + (((((x0 - (((x0.toUInt32 >>> ((1 : Int32).toUInt32 &&& Int32.toUInt32 31)).toInt32) &&& (1431655765 : Int32))) &&& (858993459 : Int32)) + ((((x0 - (((x0.toUInt32 >>> ((1 : Int32).toUInt32 &&& Int32.toUInt32 31)).toInt32) &&& (1431655765 : Int32))).toUInt32 >>> ((2 : Int32).toUInt32 &&& Int32.toUInt32 31)).toInt32) &&& (858993459 : Int32))).toUInt32 >>> ((4 : Int32).toUInt32 &&& Int32.toUInt32 31)).toInt32)) &&& (252645135 : Int32)).toUInt32 >>> ((8 : Int32).toUInt32 &&& Int32.toUInt32 31)).toInt32)) + ((((((((x0 - (((x0.toUInt32 >>> ((1 : Int32).toUInt32 &&& Int32.toUInt32 31)).toInt32) &&& (1431655765 : Int32))) &&& (858993459 : Int32)) + ((((x0 - (((x0.toUInt32 >>> ((1 : Int32).toUInt32 &&& Int32.toUInt32 31)).toInt32) &&& (1431655765 : Int32))).toUInt32 >>> ((2 : Int32).toUInt32 &&& Int32.toUInt32 31)).toInt32) &&& (858993459 : Int32))) + (((((x0 - (((x0.toUInt32 >>> ((1 : Int32).toUInt32 &&& Int32.toUInt32 31)).toInt32) &&& (1431655765 : Int32))) &&& (858993459 : Int32)) + ((((x0 - (((x0.toUInt32 >>> ((1 : Int32).toUInt32 &&& Int32.toUInt32 31)).toInt32) &&& (1431655765 : Int32))).toUInt32 >>> ((2 : Int32).toUInt32 &&& Int32.toUInt32 31)).toInt32) &&& (858993459 : Int32))).toUInt32 >>> ((4 : Int32).toUInt32 &&& Int32.toUInt32 31)).toInt32)) &&& (252645135 : Int32)) + (((((((x0 - (((x0.toUInt32 >>> ((1 : Int32).toUInt32 &&& Int32.toUInt32 31)).toInt32) &&& (1431655765 : Int32))) &&& (858993459 : Int32)) + ((((x0 - (((x0.toUInt32 >>> ((1 : Int32).toUInt32 &&& Int32.toUInt32 31)).toInt32) &&& (1431655765 : Int32))).toUInt32 >>> ((2 : Int32).toUInt32 &&& Int32.toUInt32 31)).toInt32) &&& (858993459 : Int32))) + (((((x0 - (((x0.toUInt32 >>> ((1 : Int32).toUInt32 &&& Int32.toUInt32 31)).toInt32) &&& (1431655765 : Int32))) &&& (858993459 : Int32)) + ((((x0 - (((x0.toUInt32 >>> ((1 : Int32).toUInt32 &&& Int32.toUInt32 31)).toInt32) &&& (1431655765 : Int32))).toUInt32 >>> ((2 : Int32).toUInt32 &&& Int32.toUInt32 31)).toInt32) &&& (858993459 : Int32))).toUInt32 >>> ((4 : Int32).toUInt32 &&& Int32.toUInt32 31)).toInt32)) &&& (252645135 : Int32)).toUInt32 >>> ((8 : Int32).toUInt32 &&& Int32.toUInt32 31)).toInt32)).toUInt32 >>> ((16 : Int32).toUInt32 &&& Int32.toUInt32 31)).toInt32)))]) C d_JI_bitCount_47 rfl rfl (by decide) rfl ?_
  refine g_iload_n (pc1 := 49) C d_JI_bitCount_48 rfl rfl 0 rfl ?_
  refine g_bipush (pc1 := 51) (v := (63 : Int32)) C d_JI_bitCount_49 rfl bp_63 ?_
  refine g_iand (pc1 := 52) C d_JI_bitCount_51 rfl ?_
  exact g_iret C hr hlk d_JI_bitCount_52 (Option.some.inj hF) rfl
-- TentPegs.isLost(I)Z
set_option maxHeartbeats 4000000 in
set_option maxRecDepth 100000 in
theorem c_T_isLost (l : Launch) (x0 : Int32) (r : Int32) (hF : F_T_isLost x0 = some r) : SetI l y_T_isLost b_T_isLost 1 (some .boolean) { frames := 1, cells := 0, slots := 0, locals := 20 } [.int x0] r := by
  refine met_ofS rfl (by decide +kernel) (Nat.le_of_ble_eq_true rfl) (fun p e s m below meth c C hr hlk => ?_)
  unfold F_T_isLost at hF
  show G p l e { frames := 1, cells := 0, slots := 0, locals := 20 } s m _ below meth c _ (fun _ => 0, fun _ _ => 0) (fun _ => False) 1 [] 0 [(0, .int x0)] []
  refine g_iload_n (pc1 := 1) C d_T_isLost_0 rfl rfl 0 rfl ?_
  obtain ⟨r1, hr1, hF⟩ := bnd_some hF
  refine g_callSI (pc1 := 4) (As := [.int x0]) (rest := []) C 1 (c_JI_bitCount l x0 r1 hr1) s_JI_bitCount kw_38 rfl ⟨Nat.le_of_ble_eq_true rfl, Nat.le_of_ble_eq_true rfl⟩ ⟨rfl, rfl⟩ d_T_isLost_1 rfl rfl (Nat.le_of_ble_eq_true rfl) ?_
  refine g_iconst (pc1 := 5) (v := (2 : Int32)) C d_T_isLost_4 rfl ic_2 ?_
  refine g_icmp_ge (pc1 := 8) C 12 d_T_isLost_5 rfl (by decide) (fun c1 => ?_) (fun c1 => ?_)
  · replace hF := ite_t hF c1
    refine g_iconst (pc1 := 13) (v := (0 : Int32)) C d_T_isLost_12 rfl ic_0 ?_
    exact g_zret C hr hlk rfl d_T_isLost_13 (Option.some.inj hF) rfl
  · replace hF := ite_f hF c1
    refine g_iconst (pc1 := 9) (v := (1 : Int32)) C d_T_isLost_8 rfl ic_1 ?_
    refine g_goto C 13 d_T_isLost_9 (by decide) ?_
    exact g_zret C hr hlk rfl d_T_isLost_13 (Option.some.inj hF) rfl
-- TentPegs$Field.remember()V
set_option maxHeartbeats 4000000 in
set_option maxRecDepth 100000 in
theorem p_F_remember_34 {p : Program} {l : Launch} {e : Env} {s : State} {m : MethodId} {args : Array Value} {below : List Frame} {meth : Method} {c : Code} {D : va_G} {cs : Nat → ClassId} {a : Nat → Nat} {μ1 : Mem} (C : Cx p s m args c b_F_remember 1 "TentPegs$Field") (hK : va_K D classes (tys cs) s) (hr : meth.sig.returnType = none) (hlk : meth.locks = false)  (μ : Mem)  (hF : F_F_remember_34  μ = some μ1) : G p l e { frames := 1, cells := 0, slots := 0, locals := 26 } s m args below meth c (MQ below (Qv (AF a) D (WF a cs μ1)) args s 0 0 (AF a)) D (AF a) 1 (WF a cs μ) 34 [(0, .ref (a 0))] [] := by
  unfold F_F_remember_34 at hF
  refine g_aload_n (pc1 := 35) C d_F_remember_34 rfl rfl 0 rfl ?_
  refine get_WF_0_stoodBefore (pc1 := 38) C hK kw_39 d_F_remember_35 rfl ?_
  refine g_aload_n (pc1 := 39) C d_F_remember_38 rfl rfl 0 rfl ?_
  refine get_WF_0_undoable (pc1 := 42) C hK (v := (μ.1 0 4)) rfl kw_8 d_F_remember_39 rfl ?_
  refine g_aload_n (pc1 := 43) C d_F_remember_42 rfl rfl 0 rfl ?_
  refine get_WF_0_standing (pc1 := 46) C hK (v := (μ.1 0 3)) rfl kw_7 d_F_remember_43 rfl ?_
  have hg := gd_some hF
  replace hF := hg.2
  refine g_iast (pc1 := 47) (ws1 := WF a cs (stI μ 5 (μ.1 0 4).toNatClampNeg (μ.1 0 3))) C hK 5 (f := (μ.1 5)) rfl hg.1 (set_WF_5 _ _ _ _ _) d_F_remember_46 rfl ?_
  refine g_aload_n (pc1 := 48) C d_F_remember_47 rfl rfl 0 rfl ?_
  refine g_dup (pc1 := 49) C d_F_remember_48 rfl rfl ?_
  refine get_WF_0_undoable (pc1 := 52) C hK (v := (μ.1 0 4)) rfl kw_8 d_F_remember_49 rfl ?_
  refine g_iconst (pc1 := 53) (v := (1 : Int32)) C d_F_remember_52 rfl ic_1 ?_
  refine g_iadd (pc1 := 54) C d_F_remember_53 rfl ?_
  refine put_WF_0_undoable (pc1 := 57) C hK kw_8 d_F_remember_54 rfl ?_
  exact g_vret C hr hlk d_F_remember_57 (congrArg (WF a cs) (Option.some.inj hF))
set_option maxHeartbeats 4000000 in
set_option maxRecDepth 100000 in
theorem c_F_remember (l : Launch) (D : va_G) (cs : Nat → ClassId) (a : Nat → Nat) (μ : Mem)  (μ1 : Mem) (hF : F_F_remember μ = some μ1) : MetV l y_F_remember b_F_remember 1 none { frames := 1, cells := 0, slots := 0, locals := 26 } D cs (AF a) (WF a cs μ) [.ref (a 0)] (WF a cs μ1) := by
  refine met_of rfl (by decide +kernel) (Nat.le_of_ble_eq_true rfl) (fun p e s m below meth c C hK hr hlk => ?_)
  unfold F_F_remember at hF
  show G p l e { frames := 1, cells := 0, slots := 0, locals := 26 } s m _ below meth c _ D (AF a) 1 (WF a cs μ) 0 [(0, .ref (a 0))] []
  refine g_aload_n (pc1 := 1) C d_F_remember_0 rfl rfl 0 rfl ?_
  refine get_WF_0_undoable (pc1 := 4) C hK (v := (μ.1 0 4)) rfl kw_8 d_F_remember_1 rfl ?_
  refine g_bipush (pc1 := 6) (v := (10 : Int32)) C d_F_remember_4 rfl bp_10 ?_
  refine g_icmp_ne (pc1 := 9) C 34 d_F_remember_6 rfl (by decide) (fun c1 => ?_) (fun c1 => ?_)
  · replace hF := ite_f hF c1
    exact g_sub [0] rfl (p_F_remember_34 C hK hr hlk  μ hF)
  · replace hF := ite_t hF c1
    refine g_aload_n (pc1 := 10) C d_F_remember_9 rfl rfl 0 rfl ?_
    refine get_WF_0_stoodBefore (pc1 := 13) C hK kw_39 d_F_remember_10 rfl ?_
    refine g_iconst (pc1 := 14) (v := (1 : Int32)) C d_F_remember_13 rfl ic_1 ?_
    refine g_aload_n (pc1 := 15) C d_F_remember_14 rfl rfl 0 rfl ?_
    refine get_WF_0_stoodBefore (pc1 := 18) C hK kw_39 d_F_remember_15 rfl ?_
    refine g_iconst (pc1 := 19) (v := (0 : Int32)) C d_F_remember_18 rfl ic_0 ?_
    refine g_bipush (pc1 := 21) (v := (9 : Int32)) C d_F_remember_19 rfl bp_9 ?_
    refine g_copy (pc1 := 24) (ws1 := WF a cs (stR μ 5 (va_cpy (μ.1 5) (μ.1 5) 1 0 9))) C hK 5 5 (f := (μ.1 5)) (g := (μ.1 5)) kw_40 kw_41 kw_42 kw_43 rfl rfl (by decide) (by decide) (by decide) (by decide) (by decide) (Nat.le_of_ble_eq_true rfl) (Nat.le_of_ble_eq_true rfl) (setR_WF_5 _ _ _ _) d_F_remember_21 rfl ?_
    refine g_aload_n (pc1 := 25) C d_F_remember_24 rfl rfl 0 rfl ?_
    refine g_dup (pc1 := 26) C d_F_remember_25 rfl rfl ?_
    refine get_WF_0_undoable (pc1 := 29) C hK (v := (μ.1 0 4)) rfl kw_8 d_F_remember_26 rfl ?_
    refine g_iconst (pc1 := 30) (v := (1 : Int32)) C d_F_remember_29 rfl ic_1 ?_
    refine g_isub (pc1 := 31) C d_F_remember_30 rfl ?_
    refine put_WF_0_undoable (pc1 := 34) C hK kw_8 d_F_remember_31 rfl ?_
    exact g_sub [0] rfl (p_F_remember_34 C hK hr hlk  (stI (stR μ 5 (va_cpy (μ.1 5) (μ.1 5) 1 0 9)) 0 4 ((μ.1 0 4) - (1 : Int32))) hF)
-- TentPegs$Gale.overTheField()V
set_option maxHeartbeats 4000000 in
set_option maxRecDepth 100000 in
theorem c_G_overTheField (l : Launch) (D : va_G) (cs : Nat → ClassId) (a : Nat → Nat) (μ : Mem)  (μ1 : Mem) (hF : F_G_overTheField μ = some μ1) : MetV l y_G_overTheField b_G_overTheField 1 none { frames := 0, cells := 0, slots := 0, locals := 0 } D cs (AC a) (WC a cs μ) [.ref (a 7)] (WC a cs μ1) := by
  refine met_of rfl (by decide +kernel) (Nat.le_of_ble_eq_true rfl) (fun p e s m below meth c C hK hr hlk => ?_)
  unfold F_G_overTheField at hF
  show G p l e { frames := 0, cells := 0, slots := 0, locals := 0 } s m _ below meth c _ D (AC a) 1 (WC a cs μ) 0 [(0, .ref (a 7))] []
  refine g_aload_n (pc1 := 1) C d_G_overTheField_0 rfl rfl 0 rfl ?_
  refine g_aload_n (pc1 := 2) C d_G_overTheField_1 rfl rfl 0 rfl ?_
  refine get_WC_7_field (pc1 := 5) C hK kw_44 d_G_overTheField_2 rfl ?_
  refine get_WC_1_standing (pc1 := 8) C hK (v := (μ.1 1 3)) rfl kw_45 d_G_overTheField_5 rfl ?_
  refine put_WC_7_standing (pc1 := 11) C hK kw_46 d_G_overTheField_8 rfl ?_
  refine g_aload_n (pc1 := 12) C d_G_overTheField_11 rfl rfl 0 rfl ?_
  refine g_aload_n (pc1 := 13) C d_G_overTheField_12 rfl rfl 0 rfl ?_
  refine get_WC_7_field (pc1 := 16) C hK kw_44 d_G_overTheField_13 rfl ?_
  refine get_WC_1_walls (pc1 := 19) C hK (v := (μ.1 1 2)) rfl kw_47 d_G_overTheField_16 rfl ?_
  refine put_WC_7_walls (pc1 := 22) C hK kw_48 d_G_overTheField_19 rfl ?_
  refine g_aload_n (pc1 := 23) C d_G_overTheField_22 rfl rfl 0 rfl ?_
  refine g_iconst (pc1 := 24) (v := (0 : Int32)) C d_G_overTheField_23 rfl ic_0 ?_
  refine put_WC_7_turned (pc1 := 27) C hK kw_49 d_G_overTheField_24 rfl ?_
  refine g_aload_n (pc1 := 28) C d_G_overTheField_27 rfl rfl 0 rfl ?_
  refine g_iconst (pc1 := 29) (v := (0 : Int32)) C d_G_overTheField_28 rfl ic_0 ?_
  refine put_WC_7_doubled (pc1 := 32) C hK kw_50 d_G_overTheField_29 rfl ?_
  exact g_vret C hr hlk d_G_overTheField_32 (congrArg (WC a cs) (Option.some.inj hF))
-- TentPegs.asItIs()LTentPegs$Gale;
set_option maxHeartbeats 4000000 in
set_option maxRecDepth 100000 in
theorem c_T_asItIs (l : Launch) (D : va_G) (cs : Nat → ClassId) (a : Nat → Nat) (μ : Mem)  (μ1 : Mem) (hF : F_T_asItIs μ = some μ1) : MetR l y_T_asItIs b_T_asItIs 1 (some (.object "TentPegs$Gale")) { frames := 1, cells := 0, slots := 0, locals := 20 } D cs (AC a) (WC a cs μ) [.ref (a 0)] (a 7) (WC a cs μ1) := by
  refine met_of rfl (by decide +kernel) (Nat.le_of_ble_eq_true rfl) (fun p e s m below meth c C hK hr hlk => ?_)
  unfold F_T_asItIs at hF
  show G p l e { frames := 1, cells := 0, slots := 0, locals := 20 } s m _ below meth c _ D (AC a) 1 (WC a cs μ) 0 [(0, .ref (a 0))] []
  refine g_aload_n (pc1 := 1) C d_T_asItIs_0 rfl rfl 0 rfl ?_
  refine get_WC_0_gale (pc1 := 4) C hK kw_51 d_T_asItIs_1 rfl ?_
  obtain ⟨m1, hm1, hF⟩ := bnd_some hF
  refine g_callVV (pc1 := 7) (ws1 := WC a cs m1) (As := []) (rest := []) (b := a 7) C hK 0 (c_G_overTheField l D cs a μ  m1 hm1) s_G_overTheField kw_52 7 rfl rfl rfl ⟨Nat.le_of_ble_eq_true rfl, Nat.le_of_ble_eq_true rfl⟩ ⟨rfl, rfl⟩ d_T_asItIs_4 rfl rfl (Nat.le_of_ble_eq_true rfl) ?_
  refine g_aload_n (pc1 := 8) C d_T_asItIs_7 rfl rfl 0 rfl ?_
  refine get_WC_0_gale (pc1 := 11) C hK kw_51 d_T_asItIs_8 rfl ?_
  exact g_aret C hr hlk d_T_asItIs_11 rfl (congrArg (WC a cs) (Option.some.inj hF))
-- TentPegs$Gale.behindWalls(II)I
set_option maxHeartbeats 4000000 in
set_option maxRecDepth 100000 in
theorem p_G_behindWalls_55 {p : Program} {l : Launch} {e : Env} {s : State} {m : MethodId} {args : Array Value} {below : List Frame} {meth : Method} {c : Code} {D : va_G} {cs : Nat → ClassId} {a : Nat → Nat} {μ : Mem} {r : Int32} (C : Cx p s m args c b_G_behindWalls 4 "TentPegs$Gale") (hK : va_K D classes (tys cs) s) (hr : meth.sig.returnType = (some .int)) (hlk : meth.locks = false)  (x2 : Int32) (s0 : Int32) (hF : F_G_behindWalls_55  μ x2 s0 = some r) : G p l e { frames := 1, cells := 0, slots := 0, locals := 21 } s m args below meth c (MQ below (Qi (AC a) D (WC a cs μ) r) args s 0 0 (AC a)) D (AC a) 4 (WC a cs μ) 55 [(2, .int x2)] [.int s0] := by
  unfold F_G_behindWalls_55 at hF
  refine g_istore_n (pc1 := 56) (L1 := [(3, .int s0), (2, .int x2)]) C d_G_behindWalls_55 rfl rfl (by decide) rfl ?_
  refine g_iload_n (pc1 := 57) C d_G_behindWalls_56 rfl rfl 0 rfl ?_
  refine g_if_eq (pc1 := 60) C 68 d_G_behindWalls_57 rfl (by decide) (fun c1 => ?_) (fun c1 => ?_)
  · replace hF := ite_t hF c1
    refine g_iload_n (pc1 := 69) C d_G_behindWalls_68 rfl rfl 1 rfl ?_
    exact g_iret C hr hlk d_G_behindWalls_69 (Option.some.inj hF) rfl
  · replace hF := ite_f hF c1
    refine g_iload_n (pc1 := 61) C d_G_behindWalls_60 rfl rfl 1 rfl ?_
    refine g_iload_n (pc1 := 62) C d_G_behindWalls_61 rfl rfl 1 rfl ?_
    refine g_iconst (pc1 := 63) (v := (4 : Int32)) C d_G_behindWalls_62 rfl ic_4 ?_
    refine g_idiv (pc1 := 64) C d_G_behindWalls_63 rfl nzi_4 ?_
    refine g_iadd (pc1 := 65) C d_G_behindWalls_64 rfl ?_
    refine g_goto C 69 d_G_behindWalls_65 (by decide) ?_
    exact g_iret C hr hlk d_G_behindWalls_69 (Option.some.inj hF) rfl
set_option maxHeartbeats 4000000 in
set_option maxRecDepth 100000 in
theorem p_G_behindWalls_50 {p : Program} {l : Launch} {e : Env} {s : State} {m : MethodId} {args : Array Value} {below : List Frame} {meth : Method} {c : Code} {D : va_G} {cs : Nat → ClassId} {a : Nat → Nat} {μ : Mem} {r : Int32} (C : Cx p s m args c b_G_behindWalls 4 "TentPegs$Gale") (hK : va_K D classes (tys cs) s) (hr : meth.sig.returnType = (some .int)) (hlk : meth.locks = false)  (x2 : Int32) (hF : F_G_behindWalls_50  μ x2 = some r) : G p l e { frames := 1, cells := 0, slots := 0, locals := 21 } s m args below meth c (MQ below (Qi (AC a) D (WC a cs μ) r) args s 0 0 (AC a)) D (AC a) 4 (WC a cs μ) 50 [(2, .int x2)] [] := by
  unfold F_G_behindWalls_50 at hF
  refine g_iconst (pc1 := 51) (v := (1 : Int32)) C d_G_behindWalls_50 rfl ic_1 ?_
  refine g_goto C 55 d_G_behindWalls_51 (by decide) ?_
  exact g_sub [0] rfl (p_G_behindWalls_55 C hK hr hlk  x2 (1 : Int32) hF)
set_option maxHeartbeats 4000000 in
set_option maxRecDepth 100000 in
theorem c_G_behindWalls (l : Launch) (D : va_G) (cs : Nat → ClassId) (a : Nat → Nat) (μ : Mem) (x1 : Int32) (x2 : Int32) (r : Int32) (hF : F_G_behindWalls μ x1 x2 = some r) : MetI l y_G_behindWalls b_G_behindWalls 4 (some .int) { frames := 1, cells := 0, slots := 0, locals := 21 } D cs (AC a) (WC a cs μ) [.ref (a 7), .int x1, .int x2] r (WC a cs μ) := by
  refine met_of rfl (by decide +kernel) (Nat.le_of_ble_eq_true rfl) (fun p e s m below meth c C hK hr hlk => ?_)
  unfold F_G_behindWalls at hF
  show G p l e { frames := 1, cells := 0, slots := 0, locals := 21 } s m _ below meth c _ D (AC a) 4 (WC a cs μ) 0 [(0, .ref (a 7)), (1, .int x1), (2, .int x2)] []
  refine g_aload_n (pc1 := 1) C d_G_behindWalls_0 rfl rfl 0 rfl ?_
  refine get_WC_7_walls (pc1 := 4) C hK (v := (μ.1 7 5)) rfl kw_48 d_G_behindWalls_1 rfl ?_
  refine g_iload_n (pc1 := 5) C d_G_behindWalls_4 rfl rfl 1 rfl ?_
  obtain ⟨r1, hr1, hF⟩ := bnd_some hF
  refine g_callNI (pc1 := 8) (As := [.int (μ.1 7 5), .int x1]) (rest := []) C 2 (c_T_has l (μ.1 7 5) x1 r1 hr1) s_T_has 8 rfl rfl ⟨Nat.le_of_ble_eq_true rfl, Nat.le_of_ble_eq_true rfl⟩ ⟨rfl, rfl⟩ d_G_behindWalls_5 rfl rfl (Nat.le_of_ble_eq_true rfl) ?_
  refine g_if_eq (pc1 := 11) C 15 d_G_behindWalls_8 rfl (by decide) (fun c1 => ?_) (fun c1 => ?_)
  · replace hF := ite_t hF c1
    refine g_aload_n (pc1 := 16) C d_G_behindWalls_15 rfl rfl 0 rfl ?_
    refine get_WC_7_walls (pc1 := 19) C hK (v := (μ.1 7 5)) rfl kw_48 d_G_behindWalls_16 rfl ?_
    refine g_iload_n (pc1 := 20) C d_G_behindWalls_19 rfl rfl 1 rfl ?_
    refine g_iconst (pc1 := 21) (v := (1 : Int32)) C d_G_behindWalls_20 rfl ic_1 ?_
    refine g_iadd (pc1 := 22) C d_G_behindWalls_21 rfl ?_
    refine g_bipush (pc1 := 24) (v := (8 : Int32)) C d_G_behindWalls_22 rfl bp_8 ?_
    refine g_irem (pc1 := 25) C d_G_behindWalls_24 rfl nzi_8 ?_
    obtain ⟨r2, hr2, hF⟩ := bnd_some hF
    refine g_callNI (pc1 := 28) (As := [.int (μ.1 7 5), .int ((x1 + (1 : Int32)) - (x1 + (1 : Int32)) / (8 : Int32) * (8 : Int32))]) (rest := []) C 2 (c_T_has l (μ.1 7 5) ((x1 + (1 : Int32)) - (x1 + (1 : Int32)) / (8 : Int32) * (8 : Int32)) r2 hr2) s_T_has 8 rfl rfl ⟨Nat.le_of_ble_eq_true rfl, Nat.le_of_ble_eq_true rfl⟩ ⟨rfl, rfl⟩ d_G_behindWalls_25 rfl rfl (Nat.le_of_ble_eq_true rfl) ?_
    refine g_if_ne (pc1 := 31) C 50 d_G_behindWalls_28 rfl (by decide) (fun c1 => ?_) (fun c1 => ?_)
    · replace hF := ite_f hF c1
      exact g_sub [2] rfl (p_G_behindWalls_50 C hK hr hlk  x2 hF)
    · replace hF := ite_t hF c1
      refine g_aload_n (pc1 := 32) C d_G_behindWalls_31 rfl rfl 0 rfl ?_
      refine get_WC_7_walls (pc1 := 35) C hK (v := (μ.1 7 5)) rfl kw_48 d_G_behindWalls_32 rfl ?_
      refine g_iload_n (pc1 := 36) C d_G_behindWalls_35 rfl rfl 1 rfl ?_
      refine g_bipush (pc1 := 38) (v := (8 : Int32)) C d_G_behindWalls_36 rfl bp_8 ?_
      refine g_iadd (pc1 := 39) C d_G_behindWalls_38 rfl ?_
      refine g_iconst (pc1 := 40) (v := (1 : Int32)) C d_G_behindWalls_39 rfl ic_1 ?_
      refine g_isub (pc1 := 41) C d_G_behindWalls_40 rfl ?_
      refine g_bipush (pc1 := 43) (v := (8 : Int32)) C d_G_behindWalls_41 rfl bp_8 ?_
      refine g_irem (pc1 := 44) C d_G_behindWalls_43 rfl nzi_8 ?_
      obtain ⟨r3, hr3, hF⟩ := bnd_some hF
      refine g_callNI (pc1 := 47) (As := [.int (μ.1 7 5), .int (((x1 + (8 : Int32)) - (1 : Int32)) - ((x1 + (8 : Int32)) - (1 : Int32)) / (8 : Int32) * (8 : Int32))]) (rest := []) C 2 (c_T_has l (μ.1 7 5) (((x1 + (8 : Int32)) - (1 : Int32)) - ((x1 + (8 : Int32)) - (1 : Int32)) / (8 : Int32) * (8 : Int32)) r3 hr3) s_T_has 8 rfl rfl ⟨Nat.le_of_ble_eq_true rfl, Nat.le_of_ble_eq_true rfl⟩ ⟨rfl, rfl⟩ d_G_behindWalls_44 rfl rfl (Nat.le_of_ble_eq_true rfl) ?_
      refine g_if_eq (pc1 := 50) C 54 d_G_behindWalls_47 rfl (by decide) (fun c1 => ?_) (fun c1 => ?_)
      · replace hF := ite_t hF c1
        refine g_iconst (pc1 := 55) (v := (0 : Int32)) C d_G_behindWalls_54 rfl ic_0 ?_
        exact g_sub [2] rfl (p_G_behindWalls_55 C hK hr hlk  x2 (0 : Int32) hF)
      · replace hF := ite_f hF c1
        exact g_sub [2] rfl (p_G_behindWalls_50 C hK hr hlk  x2 hF)
  · replace hF := ite_f hF c1
    refine g_iload_n (pc1 := 12) C d_G_behindWalls_11 rfl rfl 2 rfl ?_
    refine g_iconst (pc1 := 13) (v := (2 : Int32)) C d_G_behindWalls_12 rfl ic_2 ?_
    refine g_idiv (pc1 := 14) C d_G_behindWalls_13 rfl nzi_2 ?_
    exact g_iret C hr hlk d_G_behindWalls_14 (Option.some.inj hF) rfl
-- TentPegs$Gale.wayOf(I)I
set_option maxHeartbeats 4000000 in
set_option maxRecDepth 100000 in
theorem c_G_wayOf (l : Launch) (D : va_G) (cs : Nat → ClassId) (a : Nat → Nat) (μ : Mem) (x1 : Int32) (r : Int32) (hF : F_G_wayOf μ x1 = some r) : MetI l y_G_wayOf b_G_wayOf 2 (some .int) { frames := 0, cells := 0, slots := 0, locals := 0 } D cs (AC a) (WC a cs μ) [.ref (a 7), .int x1] r (WC a cs μ) := by
  refine met_of rfl (by decide +kernel) (Nat.le_of_ble_eq_true rfl) (fun p e s m below meth c C hK hr hlk => ?_)
  unfold F_G_wayOf at hF
  show G p l e { frames := 0, cells := 0, slots := 0, locals := 0 } s m _ below meth c _ D (AC a) 2 (WC a cs μ) 0 [(0, .ref (a 7)), (1, .int x1)] []
  refine g_iload_n (pc1 := 1) C d_G_wayOf_0 rfl rfl 1 rfl ?_
  refine g_bipush (pc1 := 3) (v := (8 : Int32)) C d_G_wayOf_1 rfl bp_8 ?_
  refine g_imul (pc1 := 4) C d_G_wayOf_3 rfl ?_
  refine g_aload_n (pc1 := 5) C d_G_wayOf_4 rfl rfl 0 rfl ?_
  refine get_WC_7_field (pc1 := 8) C hK kw_44 d_G_wayOf_5 rfl ?_
  refine get_WC_1_pegs (pc1 := 11) C hK (v := (μ.1 1 0)) rfl kw_53 d_G_wayOf_8 rfl ?_
  by_cases h0 : (μ.1 1 0) = 0
  · exact none_no (ite_t hF h0)
  replace hF := ite_f hF h0
  refine g_idiv (pc1 := 12) C d_G_wayOf_11 rfl h0 ?_
  refine g_aload_n (pc1 := 13) C d_G_wayOf_12 rfl rfl 0 rfl ?_
  refine get_WC_7_turned (pc1 := 16) C hK (v := (μ.1 7 6)) rfl kw_49 d_G_wayOf_13 rfl ?_
  refine g_iadd (pc1 := 17) C d_G_wayOf_16 rfl ?_
  refine g_bipush (pc1 := 19) (v := (8 : Int32)) C d_G_wayOf_17 rfl bp_8 ?_
  refine g_irem (pc1 := 20) C d_G_wayOf_19 rfl nzi_8 ?_
  exact g_iret C hr hlk d_G_wayOf_20 (Option.some.inj hF) rfl
-- TentPegs$Gale.shareOf(II)I
set_option maxHeartbeats 4000000 in
set_option maxRecDepth 100000 in
theorem c_G_shareOf (l : Launch) (D : va_G) (cs : Nat → ClassId) (a : Nat → Nat) (μ : Mem) (x1 : Int32) (x2 : Int32) (r : Int32) (hF : F_G_shareOf μ x1 x2 = some r) : MetI l y_G_shareOf b_G_shareOf 4 (some .int) { frames := 1, cells := 0, slots := 0, locals := 21 } D cs (AC a) (WC a cs μ) [.ref (a 7), .int x1, .int x2] r (WC a cs μ) := by
  refine met_of rfl (by decide +kernel) (Nat.le_of_ble_eq_true rfl) (fun p e s m below meth c C hK hr hlk => ?_)
  unfold F_G_shareOf at hF
  show G p l e { frames := 1, cells := 0, slots := 0, locals := 21 } s m _ below meth c _ D (AC a) 4 (WC a cs μ) 0 [(0, .ref (a 7)), (1, .int x1), (2, .int x2)] []
  refine g_aload_n (pc1 := 1) C d_G_shareOf_0 rfl rfl 0 rfl ?_
  refine g_iload_n (pc1 := 2) C d_G_shareOf_1 rfl rfl 1 rfl ?_
  obtain ⟨r1, hr1, hF⟩ := bnd_some hF
  refine g_callVI (pc1 := 5) (ws1 := WC a cs μ) (As := [.int x1]) (rest := []) (b := a 7) C hK 1 (c_G_wayOf l D cs a μ x1 r1 hr1) s_G_wayOf kw_54 7 rfl rfl rfl ⟨Nat.le_of_ble_eq_true rfl, Nat.le_of_ble_eq_true rfl⟩ ⟨rfl, rfl⟩ d_G_shareOf_2 rfl rfl (Nat.le_of_ble_eq_true rfl) ?_
  refine g_iload_n (pc1 := 6) C d_G_shareOf_5 rfl rfl 2 rfl ?_
  refine g_isub (pc1 := 7) C d_G_shareOf_6 rfl ?_
  refine g_mabs (pc1 := 10) (rest := []) C kw_55 (Nat.le_of_ble_eq_true rfl) (Nat.le_of_ble_eq_true rfl) d_G_shareOf_7 rfl ?_
  refine g_istore_n (pc1 := 11) (L1 := [(3, .int (if 0 ≤ (r1 - x2) then (r1 - x2) else 0 - (r1 - x2))), (0, .ref (a 7)), (1, .int x1), (2, .int x2)]) C d_G_shareOf_10 rfl rfl (by decide) rfl ?_
  refine g_iconst (pc1 := 12) (v := (4 : Int32)) C d_G_shareOf_11 rfl ic_4 ?_
  refine g_iload_n (pc1 := 13) C d_G_shareOf_12 rfl rfl 0 rfl ?_
  refine g_bipush (pc1 := 15) (v := (8 : Int32)) C d_G_shareOf_13 rfl bp_8 ?_
  refine g_iload_n (pc1 := 16) C d_G_shareOf_15 rfl rfl 0 rfl ?_
  refine g_isub (pc1 := 17) C d_G_shareOf_16 rfl ?_
  refine g_mmin (pc1 := 20) (rest := [.int (4 : Int32)]) C kw_56 (Nat.le_of_ble_eq_true rfl) (Nat.le_of_ble_eq_true rfl) d_G_shareOf_17 rfl ?_
  refine g_isub (pc1 := 21) C d_G_shareOf_20 rfl ?_
  exact g_iret C hr hlk d_G_shareOf_21 (Option.some.inj hF) rfl
-- TentPegs$Gale.pullOn(III)I
set_option maxHeartbeats 4000000 in
set_option maxRecDepth 100000 in
theorem c_G_pullOn (l : Launch) (D : va_G) (cs : Nat → ClassId) (a : Nat → Nat) (μ : Mem) (x1 : Int32) (x2 : Int32) (x3 : Int32) (r : Int32) (hF : F_G_pullOn μ x1 x2 x3 = some r) : MetI l y_G_pullOn b_G_pullOn 4 (some .int) { frames := 2, cells := 0, slots := 0, locals := 44 } D cs (AC a) (WC a cs μ) [.ref (a 7), .int x1, .int x2, .int x3] r (WC a cs μ) := by
  refine met_of rfl (by decide +kernel) (Nat.le_of_ble_eq_true rfl) (fun p e s m below meth c C hK hr hlk => ?_)
  unfold F_G_pullOn at hF
  show G p l e { frames := 2, cells := 0, slots := 0, locals := 44 } s m _ below meth c _ D (AC a) 4 (WC a cs μ) 0 [(0, .ref (a 7)), (1, .int x1), (2, .int x2), (3, .int x3)] []
  refine g_aload_n (pc1 := 1) C d_G_pullOn_0 rfl rfl 0 rfl ?_
  refine get_WC_7_standing (pc1 := 4) C hK (v := (μ.1 7 4)) rfl kw_46 d_G_pullOn_1 rfl ?_
  refine g_iload_n (pc1 := 5) C d_G_pullOn_4 rfl rfl 1 rfl ?_
  obtain ⟨r1, hr1, hF⟩ := bnd_some hF
  refine g_callNI (pc1 := 8) (As := [.int (μ.1 7 4), .int x1]) (rest := []) C 2 (c_T_has l (μ.1 7 4) x1 r1 hr1) s_T_has 8 rfl rfl ⟨Nat.le_of_ble_eq_true rfl, Nat.le_of_ble_eq_true rfl⟩ ⟨rfl, rfl⟩ d_G_pullOn_5 rfl rfl (Nat.le_of_ble_eq_true rfl) ?_
  refine g_if_ne (pc1 := 11) C 13 d_G_pullOn_8 rfl (by decide) (fun c1 => ?_) (fun c1 => ?_)
  · replace hF := ite_f hF c1
    refine g_aload_n (pc1 := 14) C d_G_pullOn_13 rfl rfl 0 rfl ?_
    refine g_iload_n (pc1 := 15) C d_G_pullOn_14 rfl rfl 2 rfl ?_
    refine g_iload_n (pc1 := 16) C d_G_pullOn_15 rfl rfl 3 rfl ?_
    obtain ⟨r2, hr2, hF⟩ := bnd_some hF
    refine g_callVI (pc1 := 19) (ws1 := WC a cs μ) (As := [.int x2, .int x3]) (rest := []) (b := a 7) C hK 2 (c_G_behindWalls l D cs a μ x2 x3 r2 hr2) s_G_behindWalls kw_57 7 rfl rfl rfl ⟨Nat.le_of_ble_eq_true rfl, Nat.le_of_ble_eq_true rfl⟩ ⟨rfl, rfl⟩ d_G_pullOn_16 rfl rfl (Nat.le_of_ble_eq_true rfl) ?_
    refine g_aload_n (pc1 := 20) C d_G_pullOn_19 rfl rfl 0 rfl ?_
    refine g_iload_n (pc1 := 21) C d_G_pullOn_20 rfl rfl 1 rfl ?_
    refine g_iload_n (pc1 := 22) C d_G_pullOn_21 rfl rfl 2 rfl ?_
    obtain ⟨r3, hr3, hF⟩ := bnd_some hF
    refine g_callVI (pc1 := 25) (ws1 := WC a cs μ) (As := [.int x1, .int x2]) (rest := [.int r2]) (b := a 7) C hK 2 (c_G_shareOf l D cs a μ x1 x2 r3 hr3) s_G_shareOf kw_58 7 rfl rfl rfl ⟨Nat.le_of_ble_eq_true rfl, Nat.le_of_ble_eq_true rfl⟩ ⟨rfl, rfl⟩ d_G_pullOn_22 rfl rfl (Nat.le_of_ble_eq_true rfl) ?_
    refine g_imul (pc1 := 26) C d_G_pullOn_25 rfl ?_
    refine g_iconst (pc1 := 27) (v := (4 : Int32)) C d_G_pullOn_26 rfl ic_4 ?_
    refine g_idiv (pc1 := 28) C d_G_pullOn_27 rfl nzi_4 ?_
    exact g_iret C hr hlk d_G_pullOn_28 (Option.some.inj hF) rfl
  · replace hF := ite_t hF c1
    refine g_iconst (pc1 := 12) (v := (0 : Int32)) C d_G_pullOn_11 rfl ic_0 ?_
    exact g_iret C hr hlk d_G_pullOn_12 (Option.some.inj hF) rfl
-- TentPegs$Gale.aheadOf(I)I
set_option maxHeartbeats 4000000 in
set_option maxRecDepth 100000 in
theorem c_G_aheadOf (l : Launch) (D : va_G) (cs : Nat → ClassId) (a : Nat → Nat) (μ : Mem) (x1 : Int32) (r : Int32) (hF : F_G_aheadOf μ x1 = some r) : MetI l y_G_aheadOf b_G_aheadOf 2 (some .int) { frames := 0, cells := 0, slots := 0, locals := 0 } D cs (AC a) (WC a cs μ) [.ref (a 7), .int x1] r (WC a cs μ) := by
  refine met_of rfl (by decide +kernel) (Nat.le_of_ble_eq_true rfl) (fun p e s m below meth c C hK hr hlk => ?_)
  unfold F_G_aheadOf at hF
  show G p l e { frames := 0, cells := 0, slots := 0, locals := 0 } s m _ below meth c _ D (AC a) 2 (WC a cs μ) 0 [(0, .ref (a 7)), (1, .int x1)] []
  refine g_iload_n (pc1 := 1) C d_G_aheadOf_0 rfl rfl 1 rfl ?_
  refine g_if_le (pc1 := 4) C 10 d_G_aheadOf_1 rfl (by decide) (fun c1 => ?_) (fun c1 => ?_)
  · replace hF := ite_t hF c1
    refine g_aload_n (pc1 := 11) C d_G_aheadOf_10 rfl rfl 0 rfl ?_
    refine get_WC_7_field (pc1 := 14) C hK kw_44 d_G_aheadOf_11 rfl ?_
    refine get_WC_1_pegs (pc1 := 17) C hK (v := (μ.1 1 0)) rfl kw_53 d_G_aheadOf_14 rfl ?_
    refine g_iconst (pc1 := 18) (v := (1 : Int32)) C d_G_aheadOf_17 rfl ic_1 ?_
    refine g_isub (pc1 := 19) C d_G_aheadOf_18 rfl ?_
    exact g_iret C hr hlk d_G_aheadOf_19 (Option.some.inj hF) rfl
  · replace hF := ite_f hF c1
    refine g_iload_n (pc1 := 5) C d_G_aheadOf_4 rfl rfl 1 rfl ?_
    refine g_iconst (pc1 := 6) (v := (1 : Int32)) C d_G_aheadOf_5 rfl ic_1 ?_
    refine g_isub (pc1 := 7) C d_G_aheadOf_6 rfl ?_
    refine g_goto C 19 d_G_aheadOf_7 (by decide) ?_
    exact g_iret C hr hlk d_G_aheadOf_19 (Option.some.inj hF) rfl
-- TentPegs$Gale.behind(I)I
set_option maxHeartbeats 4000000 in
set_option maxRecDepth 100000 in
theorem c_G_behind (l : Launch) (D : va_G) (cs : Nat → ClassId) (a : Nat → Nat) (μ : Mem) (x1 : Int32) (r : Int32) (hF : F_G_behind μ x1 = some r) : MetI l y_G_behind b_G_behind 2 (some .int) { frames := 0, cells := 0, slots := 0, locals := 0 } D cs (AC a) (WC a cs μ) [.ref (a 7), .int x1] r (WC a cs μ) := by
  refine met_of rfl (by decide +kernel) (Nat.le_of_ble_eq_true rfl) (fun p e s m below meth c C hK hr hlk => ?_)
  unfold F_G_behind at hF
  show G p l e { frames := 0, cells := 0, slots := 0, locals := 0 } s m _ below meth c _ D (AC a) 2 (WC a cs μ) 0 [(0, .ref (a 7)), (1, .int x1)] []
  refine g_iload_n (pc1 := 1) C d_G_behind_0 rfl rfl 1 rfl ?_
  refine g_iconst (pc1 := 2) (v := (1 : Int32)) C d_G_behind_1 rfl ic_1 ?_
  refine g_iadd (pc1 := 3) C d_G_behind_2 rfl ?_
  refine g_aload_n (pc1 := 4) C d_G_behind_3 rfl rfl 0 rfl ?_
  refine get_WC_7_field (pc1 := 7) C hK kw_44 d_G_behind_4 rfl ?_
  refine get_WC_1_pegs (pc1 := 10) C hK (v := (μ.1 1 0)) rfl kw_53 d_G_behind_7 rfl ?_
  refine g_icmp_ge (pc1 := 13) C 19 d_G_behind_10 rfl (by decide) (fun c1 => ?_) (fun c1 => ?_)
  · replace hF := ite_t hF c1
    refine g_iconst (pc1 := 20) (v := (0 : Int32)) C d_G_behind_19 rfl ic_0 ?_
    exact g_iret C hr hlk d_G_behind_20 (Option.some.inj hF) rfl
  · replace hF := ite_f hF c1
    refine g_iload_n (pc1 := 14) C d_G_behind_13 rfl rfl 1 rfl ?_
    refine g_iconst (pc1 := 15) (v := (1 : Int32)) C d_G_behind_14 rfl ic_1 ?_
    refine g_iadd (pc1 := 16) C d_G_behind_15 rfl ?_
    refine g_goto C 20 d_G_behind_16 (by decide) ?_
    exact g_iret C hr hlk d_G_behind_20 (Option.some.inj hF) rfl
-- TentPegs$Gale.standingBeside(I)I
set_option maxHeartbeats 4000000 in
set_option maxRecDepth 100000 in
theorem c_G_standingBeside (l : Launch) (D : va_G) (cs : Nat → ClassId) (a : Nat → Nat) (μ : Mem) (x1 : Int32) (r : Int32) (hF : F_G_standingBeside μ x1 = some r) : MetI l y_G_standingBeside b_G_standingBeside 2 (some .int) { frames := 1, cells := 0, slots := 0, locals := 21 } D cs (AC a) (WC a cs μ) [.ref (a 7), .int x1] r (WC a cs μ) := by
  refine met_of rfl (by decide +kernel) (Nat.le_of_ble_eq_true rfl) (fun p e s m below meth c C hK hr hlk => ?_)
  unfold F_G_standingBeside at hF
  show G p l e { frames := 1, cells := 0, slots := 0, locals := 21 } s m _ below meth c _ D (AC a) 2 (WC a cs μ) 0 [(0, .ref (a 7)), (1, .int x1)] []
  refine g_aload_n (pc1 := 1) C d_G_standingBeside_0 rfl rfl 0 rfl ?_
  refine get_WC_7_standing (pc1 := 4) C hK (v := (μ.1 7 4)) rfl kw_46 d_G_standingBeside_1 rfl ?_
  refine g_aload_n (pc1 := 5) C d_G_standingBeside_4 rfl rfl 0 rfl ?_
  refine g_iload_n (pc1 := 6) C d_G_standingBeside_5 rfl rfl 1 rfl ?_
  obtain ⟨r1, hr1, hF⟩ := bnd_some hF
  refine g_callVI (pc1 := 9) (ws1 := WC a cs μ) (As := [.int x1]) (rest := [.int (μ.1 7 4)]) (b := a 7) C hK 1 (c_G_aheadOf l D cs a μ x1 r1 hr1) s_G_aheadOf kw_59 7 rfl rfl rfl ⟨Nat.le_of_ble_eq_true rfl, Nat.le_of_ble_eq_true rfl⟩ ⟨rfl, rfl⟩ d_G_standingBeside_6 rfl rfl (Nat.le_of_ble_eq_true rfl) ?_
  refine g_ishr (pc1 := 10) C d_G_standingBeside_9 rfl ?_
  refine g_iconst (pc1 := 11) (v := (1 : Int32)) C d_G_standingBeside_10 rfl ic_1 ?_
  refine g_iand (pc1 := 12) C d_G_standingBeside_11 rfl ?_
  refine g_aload_n (pc1 := 13) C d_G_standingBeside_12 rfl rfl 0 rfl ?_
  refine get_WC_7_standing (pc1 := 16) C hK (v := (μ.1 7 4)) rfl kw_46 d_G_standingBeside_13 rfl ?_
  refine g_aload_n (pc1 := 17) C d_G_standingBeside_16 rfl rfl 0 rfl ?_
  refine g_iload_n (pc1 := 18) C d_G_standingBeside_17 rfl rfl 1 rfl ?_
  obtain ⟨r2, hr2, hF⟩ := bnd_some hF
  refine g_callVI (pc1 := 21) (ws1 := WC a cs μ) (As := [.int x1]) (rest := [.int (μ.1 7 4), .int (((μ.1 7 4) >>> (r1 &&& 31)) &&& (1 : Int32))]) (b := a 7) C hK 1 (c_G_behind l D cs a μ x1 r2 hr2) s_G_behind kw_60 7 rfl rfl rfl ⟨Nat.le_of_ble_eq_true rfl, Nat.le_of_ble_eq_true rfl⟩ ⟨rfl, rfl⟩ d_G_standingBeside_18 rfl rfl (Nat.le_of_ble_eq_true rfl) ?_
  refine g_ishr (pc1 := 22) C d_G_standingBeside_21 rfl ?_
  refine g_iconst (pc1 := 23) (v := (1 : Int32)) C d_G_standingBeside_22 rfl ic_1 ?_
  refine g_iand (pc1 := 24) C d_G_standingBeside_23 rfl ?_
  refine g_iadd (pc1 := 25) C d_G_standingBeside_24 rfl ?_
  exact g_iret C hr hlk d_G_standingBeside_25 (Option.some.inj hF) rfl
-- TentPegs$Gale.holdsAt(II)I
set_option maxHeartbeats 4000000 in
set_option maxRecDepth 100000 in
theorem p_G_holdsAt_53 {p : Program} {l : Launch} {e : Env} {s : State} {m : MethodId} {args : Array Value} {below : List Frame} {meth : Method} {c : Code} {D : va_G} {cs : Nat → ClassId} {a : Nat → Nat} {μ : Mem} {r : Int32} (C : Cx p s m args c b_G_holdsAt 5 "TentPegs$Gale") (hK : va_K D classes (tys cs) s) (hr : meth.sig.returnType = (some .int)) (hlk : meth.locks = false)  (x1 : Int32) (x3 : Int32) (x4 : Int32) (s0 : Int32) (hF : F_G_holdsAt_53  μ x1 x3 x4 s0 = some r) : G p l e { frames := 2, cells := 0, slots := 0, locals := 42 } s m args below meth c (MQ below (Qi (AC a) D (WC a cs μ) r) args s 0 0 (AC a)) D (AC a) 5 (WC a cs μ) 53 [(0, .ref (a 7)), (1, .int x1), (3, .int x3), (4, .int x4)] [.int s0] := by
  unfold F_G_holdsAt_53 at hF
  by_cases h0 : s0 = (1 : Int32)
  · replace hF := ite_t hF h0
    refine g_tblIn C 88 d_G_holdsAt_53 1 (by rw [h0]; exact ti_1) (by decide) (by decide) rfl (by decide) ?_
    refine g_iload_n (pc1 := 89) C d_G_holdsAt_88 rfl rfl 2 rfl ?_
    refine g_iload_n (pc1 := 90) C d_G_holdsAt_89 rfl rfl 2 rfl ?_
    refine g_iconst (pc1 := 91) (v := (2 : Int32)) C d_G_holdsAt_90 rfl ic_2 ?_
    refine g_idiv (pc1 := 92) C d_G_holdsAt_91 rfl nzi_2 ?_
    refine g_iadd (pc1 := 93) C d_G_holdsAt_92 rfl ?_
    exact g_iret C hr hlk d_G_holdsAt_93 (Option.some.inj hF) rfl
  replace hF := ite_f hF h0
  by_cases h1 : s0 = (2 : Int32)
  · replace hF := ite_t hF h1
    refine g_tblIn C 94 d_G_holdsAt_53 2 (by rw [h1]; exact ti_2) (by decide) (by decide) rfl (by decide) ?_
    refine g_iload_n (pc1 := 95) C d_G_holdsAt_94 rfl rfl 2 rfl ?_
    refine g_bipush (pc1 := 97) (v := (10 : Int32)) C d_G_holdsAt_95 rfl bp_10 ?_
    refine g_iadd (pc1 := 98) C d_G_holdsAt_97 rfl ?_
    exact g_iret C hr hlk d_G_holdsAt_98 (Option.some.inj hF) rfl
  replace hF := ite_f hF h1
  by_cases h2 : s0 = (3 : Int32)
  · replace hF := ite_t hF h2
    refine g_tblIn C 99 d_G_holdsAt_53 3 (by rw [h2]; exact ti_3) (by decide) (by decide) rfl (by decide) ?_
    refine g_iload (pc1 := 101) C d_G_holdsAt_99 rfl 3 rfl ?_
    exact g_iret C hr hlk d_G_holdsAt_101 (Option.some.inj hF) rfl
  replace hF := ite_f hF h2
  by_cases h3 : s0 = (4 : Int32)
  · replace hF := ite_t hF h3
    refine g_tblIn C 102 d_G_holdsAt_53 4 (by rw [h3]; exact ti_4) (by decide) (by decide) rfl (by decide) ?_
    refine g_iload (pc1 := 104) C d_G_holdsAt_102 rfl 3 rfl ?_
    refine g_iconst (pc1 := 105) (v := (1 : Int32)) C d_G_holdsAt_104 rfl ic_1 ?_
    refine g_iadd (pc1 := 106) C d_G_holdsAt_105 rfl ?_
    refine g_iconst (pc1 := 107) (v := (2 : Int32)) C d_G_holdsAt_106 rfl ic_2 ?_
    refine g_idiv (pc1 := 108) C d_G_holdsAt_107 rfl nzi_2 ?_
    exact g_iret C hr hlk d_G_holdsAt_108 (Option.some.inj hF) rfl
  replace hF := ite_f hF h3
  by_cases h4 : s0 = (5 : Int32)
  · replace hF := ite_t hF h4
    refine g_tblIn C 109 d_G_holdsAt_53 5 (by rw [h4]; exact ti_5) (by decide) (by decide) rfl (by decide) ?_
    refine g_iload_n (pc1 := 110) C d_G_holdsAt_109 rfl rfl 2 rfl ?_
    refine g_iload_n (pc1 := 111) C d_G_holdsAt_110 rfl rfl 2 rfl ?_
    refine g_iconst (pc1 := 112) (v := (2 : Int32)) C d_G_holdsAt_111 rfl ic_2 ?_
    refine g_idiv (pc1 := 113) C d_G_holdsAt_112 rfl nzi_2 ?_
    refine g_iadd (pc1 := 114) C d_G_holdsAt_113 rfl ?_
    refine g_iconst (pc1 := 115) (v := (3 : Int32)) C d_G_holdsAt_114 rfl ic_3 ?_
    refine g_aload_n (pc1 := 116) C d_G_holdsAt_115 rfl rfl 0 rfl ?_
    refine g_iload_n (pc1 := 117) C d_G_holdsAt_116 rfl rfl 1 rfl ?_
    obtain ⟨r1, hr1, hF⟩ := bnd_some hF
    refine g_callVI (pc1 := 120) (ws1 := WC a cs μ) (As := [.int x1]) (rest := [.int (3 : Int32), .int (x3 + (x3 / (2 : Int32)))]) (b := a 7) C hK 1 (c_G_standingBeside l D cs a μ x1 r1 hr1) s_G_standingBeside kw_65 7 rfl rfl rfl ⟨Nat.le_of_ble_eq_true rfl, Nat.le_of_ble_eq_true rfl⟩ ⟨rfl, rfl⟩ d_G_holdsAt_117 rfl rfl (Nat.le_of_ble_eq_true rfl) ?_
    refine g_imul (pc1 := 121) C d_G_holdsAt_120 rfl ?_
    refine g_iadd (pc1 := 122) C d_G_holdsAt_121 rfl ?_
    exact g_iret C hr hlk d_G_holdsAt_122 (Option.some.inj hF) rfl
  replace hF := ite_f hF h4
  have q0 := ne_toInt ti_1 h0
  have q1 := ne_toInt ti_2 h1
  have q2 := ne_toInt ti_3 h2
  have q3 := ne_toInt ti_4 h3
  have q4 := ne_toInt ti_5 h4
  refine g_tblOut C 123 d_G_holdsAt_53 (by omega) (by decide) ?_
  refine g_iload_n (pc1 := 124) C d_G_holdsAt_123 rfl rfl 2 rfl ?_
  exact g_iret C hr hlk d_G_holdsAt_124 (Option.some.inj hF) rfl
set_option maxHeartbeats 4000000 in
set_option maxRecDepth 100000 in
theorem c_G_holdsAt (l : Launch) (D : va_G) (cs : Nat → ClassId) (a : Nat → Nat) (μ : Mem) (x1 : Int32) (x2 : Int32) (r : Int32) (hF : F_G_holdsAt μ x1 x2 = some r) : MetI l y_G_holdsAt b_G_holdsAt 5 (some .int) { frames := 2, cells := 0, slots := 0, locals := 42 } D cs (AC a) (WC a cs μ) [.ref (a 7), .int x1, .int x2] r (WC a cs μ) := by
  refine met_of rfl (by decide +kernel) (Nat.le_of_ble_eq_true rfl) (fun p e s m below meth c C hK hr hlk => ?_)
  unfold F_G_holdsAt at hF
  show G p l e { frames := 2, cells := 0, slots := 0, locals := 42 } s m _ below meth c _ D (AC a) 5 (WC a cs μ) 0 [(0, .ref (a 7)), (1, .int x1), (2, .int x2)] []
  refine g_iload_n (pc1 := 1) C d_G_holdsAt_0 rfl rfl 2 rfl ?_
  refine g_aload_n (pc1 := 2) C d_G_holdsAt_1 rfl rfl 0 rfl ?_
  refine get_WC_7_field (pc1 := 5) C hK kw_44 d_G_holdsAt_2 rfl ?_
  refine get_WC_1_grounds (pc1 := 8) C hK kw_61 d_G_holdsAt_5 rfl ?_
  refine g_iload_n (pc1 := 9) C d_G_holdsAt_8 rfl rfl 1 rfl ?_
  have hg := gd_some hF
  replace hF := hg.2
  refine g_iald (pc1 := 10) C hK 4 (f := (μ.1 4)) rfl hg.1 d_G_holdsAt_9 rfl ?_
  refine g_imul (pc1 := 11) C d_G_holdsAt_10 rfl ?_
  refine g_istore_n (pc1 := 12) (L1 := [(3, .int (x2 * ((μ.1 4) x1.toNatClampNeg))), (0, .ref (a 7)), (1, .int x1), (2, .int x2)]) C d_G_holdsAt_11 rfl rfl (by decide) rfl ?_
  refine g_iconst (pc1 := 13) (v := (0 : Int32)) C d_G_holdsAt_12 rfl ic_0 ?_
  refine g_iload_n (pc1 := 14) C d_G_holdsAt_13 rfl rfl 0 rfl ?_
  refine g_iconst (pc1 := 15) (v := (2 : Int32)) C d_G_holdsAt_14 rfl ic_2 ?_
  refine g_aload_n (pc1 := 16) C d_G_holdsAt_15 rfl rfl 1 rfl ?_
  refine get_WC_7_field (pc1 := 19) C hK kw_44 d_G_holdsAt_16 rfl ?_
  refine get_WC_1_wetness (pc1 := 22) C hK (v := (μ.1 1 1)) rfl kw_62 d_G_holdsAt_19 rfl ?_
  refine g_imul (pc1 := 23) C d_G_holdsAt_22 rfl ?_
  refine g_isub (pc1 := 24) C d_G_holdsAt_23 rfl ?_
  refine g_mmax (pc1 := 27) (rest := []) C kw_63 (Nat.le_of_ble_eq_true rfl) (Nat.le_of_ble_eq_true rfl) d_G_holdsAt_24 rfl ?_
  refine g_istore (pc1 := 29) (L1 := [(4, .int (if (0 : Int32) < ((x2 * ((μ.1 4) x1.toNatClampNeg)) - ((2 : Int32) * (μ.1 1 1))) then ((x2 * ((μ.1 4) x1.toNatClampNeg)) - ((2 : Int32) * (μ.1 1 1))) else (0 : Int32))), (3, .int (x2 * ((μ.1 4) x1.toNatClampNeg))), (0, .ref (a 7)), (1, .int x1), (2, .int x2)]) C d_G_holdsAt_27 rfl (by decide) rfl ?_
  refine g_aload_n (pc1 := 30) C d_G_holdsAt_29 rfl rfl 2 rfl ?_
  refine get_WC_7_doubled (pc1 := 33) C hK (v := (μ.1 7 7)) rfl kw_50 d_G_holdsAt_30 rfl ?_
  refine g_iload_n (pc1 := 34) C d_G_holdsAt_33 rfl rfl 3 rfl ?_
  obtain ⟨r1, hr1, hF⟩ := bnd_some hF
  refine g_callNI (pc1 := 37) (As := [.int (μ.1 7 7), .int x1]) (rest := []) C 2 (c_T_has l (μ.1 7 7) x1 r1 hr1) s_T_has 8 rfl rfl ⟨Nat.le_of_ble_eq_true rfl, Nat.le_of_ble_eq_true rfl⟩ ⟨rfl, rfl⟩ d_G_holdsAt_34 rfl rfl (Nat.le_of_ble_eq_true rfl) ?_
  refine g_if_eq (pc1 := 40) C 44 d_G_holdsAt_37 rfl (by decide) (fun c1 => ?_) (fun c1 => ?_)
  · replace hF := ite_t hF c1
    refine g_aload_n (pc1 := 45) C d_G_holdsAt_44 rfl rfl 2 rfl ?_
    refine get_WC_7_field (pc1 := 48) C hK kw_44 d_G_holdsAt_45 rfl ?_
    refine get_WC_1_kinds (pc1 := 51) C hK kw_64 d_G_holdsAt_48 rfl ?_
    refine g_iload_n (pc1 := 52) C d_G_holdsAt_51 rfl rfl 3 rfl ?_
    have hg := gd_some hF
    replace hF := hg.2
    refine g_iald (pc1 := 53) C hK 2 (f := (μ.1 2)) rfl hg.1 d_G_holdsAt_52 rfl ?_
    exact g_sub [2, 3, 1, 0] rfl (p_G_holdsAt_53 C hK hr hlk  x1 (x2 * ((μ.1 4) x1.toNatClampNeg)) (if (0 : Int32) < ((x2 * ((μ.1 4) x1.toNatClampNeg)) - ((2 : Int32) * (μ.1 1 1))) then ((x2 * ((μ.1 4) x1.toNatClampNeg)) - ((2 : Int32) * (μ.1 1 1))) else (0 : Int32)) ((μ.1 2) x1.toNatClampNeg) hF)
  · replace hF := ite_f hF c1
    refine g_iconst (pc1 := 41) (v := (1 : Int32)) C d_G_holdsAt_40 rfl ic_1 ?_
    refine g_goto C 53 d_G_holdsAt_41 (by decide) ?_
    exact g_sub [2, 3, 1, 0] rfl (p_G_holdsAt_53 C hK hr hlk  x1 (x2 * ((μ.1 4) x1.toNatClampNeg)) (if (0 : Int32) < ((x2 * ((μ.1 4) x1.toNatClampNeg)) - ((2 : Int32) * (μ.1 1 1))) then ((x2 * ((μ.1 4) x1.toNatClampNeg)) - ((2 : Int32) * (μ.1 1 1))) else (0 : Int32)) (1 : Int32) hF)
-- TentPegs$Gale.holds(I)I
set_option maxHeartbeats 4000000 in
set_option maxRecDepth 100000 in
theorem c_G_holds (l : Launch) (D : va_G) (cs : Nat → ClassId) (a : Nat → Nat) (μ : Mem) (x1 : Int32) (r : Int32) (hF : F_G_holds μ x1 = some r) : MetI l y_G_holds b_G_holds 2 (some .int) { frames := 3, cells := 0, slots := 0, locals := 66 } D cs (AC a) (WC a cs μ) [.ref (a 7), .int x1] r (WC a cs μ) := by
  refine met_of rfl (by decide +kernel) (Nat.le_of_ble_eq_true rfl) (fun p e s m below meth c C hK hr hlk => ?_)
  unfold F_G_holds at hF
  show G p l e { frames := 3, cells := 0, slots := 0, locals := 66 } s m _ below meth c _ D (AC a) 2 (WC a cs μ) 0 [(0, .ref (a 7)), (1, .int x1)] []
  refine g_aload_n (pc1 := 1) C d_G_holds_0 rfl rfl 0 rfl ?_
  refine g_iload_n (pc1 := 2) C d_G_holds_1 rfl rfl 1 rfl ?_
  refine g_aload_n (pc1 := 3) C d_G_holds_2 rfl rfl 0 rfl ?_
  refine get_WC_7_field (pc1 := 6) C hK kw_44 d_G_holds_3 rfl ?_
  refine get_WC_1_depths (pc1 := 9) C hK kw_66 d_G_holds_6 rfl ?_
  refine g_iload_n (pc1 := 10) C d_G_holds_9 rfl rfl 1 rfl ?_
  have hg := gd_some hF
  replace hF := hg.2
  refine g_iald (pc1 := 11) C hK 3 (f := (μ.1 3)) rfl hg.1 d_G_holds_10 rfl ?_
  obtain ⟨r1, hr1, hF⟩ := bnd_some hF
  refine g_callVI (pc1 := 14) (ws1 := WC a cs μ) (As := [.int x1, .int ((μ.1 3) x1.toNatClampNeg)]) (rest := []) (b := a 7) C hK 2 (c_G_holdsAt l D cs a μ x1 ((μ.1 3) x1.toNatClampNeg) r1 hr1) s_G_holdsAt kw_67 7 rfl rfl rfl ⟨Nat.le_of_ble_eq_true rfl, Nat.le_of_ble_eq_true rfl⟩ ⟨rfl, rfl⟩ d_G_holds_11 rfl rfl (Nat.le_of_ble_eq_true rfl) ?_
  exact g_iret C hr hlk d_G_holds_14 (Option.some.inj hF) rfl
-- TentPegs$Gale.nextToGo()I
set_option maxHeartbeats 4000000 in
set_option maxRecDepth 100000 in
theorem p_G_nextToGo_44 {p : Program} {l : Launch} {e : Env} {s : State} {m : MethodId} {args : Array Value} {below : List Frame} {meth : Method} {c : Code} {D : va_G} {cs : Nat → ClassId} {a : Nat → Nat} {μ : Mem} {r : Int32} (C : Cx p s m args c b_G_nextToGo 5 "TentPegs$Gale") (hK : va_K D classes (tys cs) s) (hr : meth.sig.returnType = (some .int)) (hlk : meth.locks = false) (K6 : Mem → Int32 → Int32 → Int32 → Option Int32) (hK6 : ∀ (x1 : Int32) (x2 : Int32) (x3 : Int32), K6 μ x1 x2 x3 = some r → G p l e { frames := 4, cells := 0, slots := 0, locals := 87 } s m args below meth c (MQ below (Qi (AC a) D (WC a cs μ) r) args s 0 0 (AC a)) D (AC a) 5 (WC a cs μ) 6 [(0, .ref (a 7)), (1, .int x1), (2, .int x2), (3, .int x3)] []) (x1 : Int32) (x2 : Int32) (x3 : Int32) (s0 : Int32) (hF : F_G_nextToGo_44 K6 μ x1 x2 x3 s0 = some r) : G p l e { frames := 4, cells := 0, slots := 0, locals := 87 } s m args below meth c (MQ below (Qi (AC a) D (WC a cs μ) r) args s 0 0 (AC a)) D (AC a) 5 (WC a cs μ) 44 [(0, .ref (a 7)), (1, .int x1), (2, .int x2), (3, .int x3)] [.int s0] := by
  unfold F_G_nextToGo_44 at hF
  refine g_istore (pc1 := 46) (L1 := [(4, .int s0), (0, .ref (a 7)), (1, .int x1), (2, .int x2), (3, .int x3)]) C d_G_nextToGo_44 rfl (by decide) rfl ?_
  refine g_iload (pc1 := 48) C d_G_nextToGo_46 rfl 0 rfl ?_
  refine g_iload_n (pc1 := 49) C d_G_nextToGo_48 rfl rfl 3 rfl ?_
  refine g_icmp_le (pc1 := 52) C 57 d_G_nextToGo_49 rfl (by decide) (fun c1 => ?_) (fun c1 => ?_)
  · replace hF := ite_t hF c1
    refine g_iinc (pc1 := 60) (v := (x3 + (1 : Int32))) (L1 := [(3, .int (x3 + (1 : Int32))), (4, .int s0), (0, .ref (a 7)), (1, .int x1), (2, .int x2)]) C d_G_nextToGo_57 rfl 4 rfl (by rw [ic_1]) (by decide) rfl ?_
    refine g_goto C 6 d_G_nextToGo_60 (by decide) ?_
    exact g_sub [2, 3, 4, 0] rfl (hK6 x1 x2 (x3 + (1 : Int32)) hF)
  · replace hF := ite_f hF c1
    refine g_iload_n (pc1 := 53) C d_G_nextToGo_52 rfl rfl 4 rfl ?_
    refine g_istore_n (pc1 := 54) (L1 := [(1, .int x3), (4, .int s0), (0, .ref (a 7)), (2, .int x2), (3, .int x3)]) C d_G_nextToGo_53 rfl rfl (by decide) rfl ?_
    refine g_iload (pc1 := 56) C d_G_nextToGo_54 rfl 1 rfl ?_
    refine g_istore_n (pc1 := 57) (L1 := [(2, .int s0), (1, .int x3), (4, .int s0), (0, .ref (a 7)), (3, .int x3)]) C d_G_nextToGo_56 rfl rfl (by decide) rfl ?_
    refine g_iinc (pc1 := 60) (v := (x3 + (1 : Int32))) (L1 := [(3, .int (x3 + (1 : Int32))), (2, .int s0), (1, .int x3), (4, .int s0), (0, .ref (a 7))]) C d_G_nextToGo_57 rfl 4 rfl (by rw [ic_1]) (by decide) rfl ?_
    refine g_goto C 6 d_G_nextToGo_60 (by decide) ?_
    exact g_sub [4, 2, 1, 0] rfl (hK6 x3 s0 (x3 + (1 : Int32)) hF)
set_option maxHeartbeats 4000000 in
set_option maxRecDepth 100000 in
theorem p_G_nextToGo_6 {p : Program} {l : Launch} {e : Env} {s : State} {m : MethodId} {args : Array Value} {below : List Frame} {meth : Method} {c : Code} {D : va_G} {cs : Nat → ClassId} {a : Nat → Nat} {μ : Mem} {r : Int32} (C : Cx p s m args c b_G_nextToGo 5 "TentPegs$Gale") (hK : va_K D classes (tys cs) s) (hr : meth.sig.returnType = (some .int)) (hlk : meth.locks = false)  : ∀ (x1 : Int32) (x2 : Int32) (x3 : Int32), F_G_nextToGo_6  μ x1 x2 x3 = some r → G p l e { frames := 4, cells := 0, slots := 0, locals := 87 } s m args below meth c (MQ below (Qi (AC a) D (WC a cs μ) r) args s 0 0 (AC a)) D (AC a) 5 (WC a cs μ) 6 [(0, .ref (a 7)), (1, .int x1), (2, .int x2), (3, .int x3)] [] := by
  refine iter_ind (fun (K6 : Mem → Int32 → Int32 → Int32 → Option Int32) => ∀ (x1 : Int32) (x2 : Int32) (x3 : Int32), K6 μ x1 x2 x3 = some r → G p l e { frames := 4, cells := 0, slots := 0, locals := 87 } s m args below meth c (MQ below (Qi (AC a) D (WC a cs μ) r) args s 0 0 (AC a)) D (AC a) 5 (WC a cs μ) 6 [(0, .ref (a 7)), (1, .int x1), (2, .int x2), (3, .int x3)] []) ?_ ?_ NF
  · intro x1 x2 x3 hF
    exact none_no hF
  · intro K6 hK6 x1 x2 x3 hF
    unfold S_G_nextToGo_6 at hF
    refine g_iload_n (pc1 := 7) C d_G_nextToGo_6 rfl rfl 3 rfl ?_
    refine g_aload_n (pc1 := 8) C d_G_nextToGo_7 rfl rfl 0 rfl ?_
    refine get_WC_7_field (pc1 := 11) C hK kw_44 d_G_nextToGo_8 rfl ?_
    refine get_WC_1_pegs (pc1 := 14) C hK (v := (μ.1 1 0)) rfl kw_53 d_G_nextToGo_11 rfl ?_
    refine g_icmp_ge (pc1 := 17) C 63 d_G_nextToGo_14 rfl (by decide) (fun c1 => ?_) (fun c1 => ?_)
    · replace hF := ite_t hF c1
      refine g_iload_n (pc1 := 64) C d_G_nextToGo_63 rfl rfl 1 rfl ?_
      exact g_iret C hr hlk d_G_nextToGo_64 (Option.some.inj hF) rfl
    · replace hF := ite_f hF c1
      refine g_aload_n (pc1 := 18) C d_G_nextToGo_17 rfl rfl 0 rfl ?_
      refine get_WC_7_standing (pc1 := 21) C hK (v := (μ.1 7 4)) rfl kw_46 d_G_nextToGo_18 rfl ?_
      refine g_iload_n (pc1 := 22) C d_G_nextToGo_21 rfl rfl 3 rfl ?_
      obtain ⟨r1, hr1, hF⟩ := bnd_some hF
      refine g_callNI (pc1 := 25) (As := [.int (μ.1 7 4), .int x3]) (rest := []) C 2 (c_T_has l (μ.1 7 4) x3 r1 hr1) s_T_has 8 rfl rfl ⟨Nat.le_of_ble_eq_true rfl, Nat.le_of_ble_eq_true rfl⟩ ⟨rfl, rfl⟩ d_G_nextToGo_22 rfl rfl (Nat.le_of_ble_eq_true rfl) ?_
      refine g_if_eq (pc1 := 28) C 43 d_G_nextToGo_25 rfl (by decide) (fun c1 => ?_) (fun c1 => ?_)
      · replace hF := ite_t hF c1
        refine g_iconst (pc1 := 44) (v := (0 : Int32)) C d_G_nextToGo_43 rfl ic_0 ?_
        exact g_sub [0, 1, 2, 3] rfl (p_G_nextToGo_44 C hK hr hlk K6 hK6 x1 x2 x3 (0 : Int32) hF)
      · replace hF := ite_f hF c1
        refine g_aload_n (pc1 := 29) C d_G_nextToGo_28 rfl rfl 0 rfl ?_
        refine get_WC_7_pulls (pc1 := 32) C hK kw_68 d_G_nextToGo_29 rfl ?_
        refine g_iload_n (pc1 := 33) C d_G_nextToGo_32 rfl rfl 3 rfl ?_
        have hg := gd_some hF
        replace hF := hg.2
        refine g_iald (pc1 := 34) C hK 8 (f := (μ.1 8)) rfl hg.1 d_G_nextToGo_33 rfl ?_
        refine g_aload_n (pc1 := 35) C d_G_nextToGo_34 rfl rfl 0 rfl ?_
        refine g_iload_n (pc1 := 36) C d_G_nextToGo_35 rfl rfl 3 rfl ?_
        obtain ⟨r2, hr2, hF⟩ := bnd_some hF
        refine g_callVI (pc1 := 39) (ws1 := WC a cs μ) (As := [.int x3]) (rest := [.int ((μ.1 8) x3.toNatClampNeg)]) (b := a 7) C hK 1 (c_G_holds l D cs a μ x3 r2 hr2) s_G_holds kw_69 7 rfl rfl rfl ⟨Nat.le_of_ble_eq_true rfl, Nat.le_of_ble_eq_true rfl⟩ ⟨rfl, rfl⟩ d_G_nextToGo_36 rfl rfl (Nat.le_of_ble_eq_true rfl) ?_
        refine g_isub (pc1 := 40) C d_G_nextToGo_39 rfl ?_
        refine g_goto C 44 d_G_nextToGo_40 (by decide) ?_
        exact g_sub [0, 1, 2, 3] rfl (p_G_nextToGo_44 C hK hr hlk K6 hK6 x1 x2 x3 (((μ.1 8) x3.toNatClampNeg) - r2) hF)
set_option maxHeartbeats 4000000 in
set_option maxRecDepth 100000 in
theorem c_G_nextToGo (l : Launch) (D : va_G) (cs : Nat → ClassId) (a : Nat → Nat) (μ : Mem)  (r : Int32) (hF : F_G_nextToGo μ = some r) : MetI l y_G_nextToGo b_G_nextToGo 5 (some .int) { frames := 4, cells := 0, slots := 0, locals := 87 } D cs (AC a) (WC a cs μ) [.ref (a 7)] r (WC a cs μ) := by
  refine met_of rfl (by decide +kernel) (Nat.le_of_ble_eq_true rfl) (fun p e s m below meth c C hK hr hlk => ?_)
  unfold F_G_nextToGo at hF
  show G p l e { frames := 4, cells := 0, slots := 0, locals := 87 } s m _ below meth c _ D (AC a) 5 (WC a cs μ) 0 [(0, .ref (a 7))] []
  refine g_iconst (pc1 := 1) (v := (-1 : Int32)) C d_G_nextToGo_0 rfl ic_m1 ?_
  refine g_istore_n (pc1 := 2) (L1 := [(1, .int (-1 : Int32)), (0, .ref (a 7))]) C d_G_nextToGo_1 rfl rfl (by decide) rfl ?_
  refine g_iconst (pc1 := 3) (v := (0 : Int32)) C d_G_nextToGo_2 rfl ic_0 ?_
  refine g_istore_n (pc1 := 4) (L1 := [(2, .int (0 : Int32)), (1, .int (-1 : Int32)), (0, .ref (a 7))]) C d_G_nextToGo_3 rfl rfl (by decide) rfl ?_
  refine g_iconst (pc1 := 5) (v := (0 : Int32)) C d_G_nextToGo_4 rfl ic_0 ?_
  refine g_istore_n (pc1 := 6) (L1 := [(3, .int (0 : Int32)), (2, .int (0 : Int32)), (1, .int (-1 : Int32)), (0, .ref (a 7))]) C d_G_nextToGo_5 rfl rfl (by decide) rfl ?_
  exact g_sub [3, 2, 1, 0] rfl (p_G_nextToGo_6 C hK hr hlk  (-1 : Int32) (0 : Int32) (0 : Int32) hF)
-- TentPegs$Gale.standingBehind(I)I
set_option maxHeartbeats 4000000 in
set_option maxRecDepth 100000 in
theorem p_G_standingBehind_8 {p : Program} {l : Launch} {e : Env} {s : State} {m : MethodId} {args : Array Value} {below : List Frame} {meth : Method} {c : Code} {D : va_G} {cs : Nat → ClassId} {a : Nat → Nat} {μ : Mem} {r : Int32} (C : Cx p s m args c b_G_standingBehind 4 "TentPegs$Gale") (hK : va_K D classes (tys cs) s) (hr : meth.sig.returnType = (some .int)) (hlk : meth.locks = false)  : ∀ (x2 : Int32) (x3 : Int32), F_G_standingBehind_8  μ x2 x3 = some r → G p l e { frames := 1, cells := 0, slots := 0, locals := 21 } s m args below meth c (MQ below (Qi (AC a) D (WC a cs μ) r) args s 0 0 (AC a)) D (AC a) 4 (WC a cs μ) 8 [(0, .ref (a 7)), (2, .int x2), (3, .int x3)] [] := by
  refine iter_ind (fun (K8 : Mem → Int32 → Int32 → Option Int32) => ∀ (x2 : Int32) (x3 : Int32), K8 μ x2 x3 = some r → G p l e { frames := 1, cells := 0, slots := 0, locals := 21 } s m args below meth c (MQ below (Qi (AC a) D (WC a cs μ) r) args s 0 0 (AC a)) D (AC a) 4 (WC a cs μ) 8 [(0, .ref (a 7)), (2, .int x2), (3, .int x3)] []) ?_ ?_ NF
  · intro x2 x3 hF
    exact none_no hF
  · intro K8 hK8 x2 x3 hF
    unfold S_G_standingBehind_8 at hF
    refine g_iload_n (pc1 := 9) C d_G_standingBehind_8 rfl rfl 2 rfl ?_
    refine g_aload_n (pc1 := 10) C d_G_standingBehind_9 rfl rfl 0 rfl ?_
    refine get_WC_7_field (pc1 := 13) C hK kw_44 d_G_standingBehind_10 rfl ?_
    refine get_WC_1_pegs (pc1 := 16) C hK (v := (μ.1 1 0)) rfl kw_53 d_G_standingBehind_13 rfl ?_
    refine g_icmp_ge (pc1 := 19) C 42 d_G_standingBehind_16 rfl (by decide) (fun c1 => ?_) (fun c1 => ?_)
    · replace hF := ite_t hF c1
      refine g_iload_n (pc1 := 43) C d_G_standingBehind_42 rfl rfl 1 rfl ?_
      exact g_iret C hr hlk d_G_standingBehind_43 (Option.some.inj hF) rfl
    · replace hF := ite_f hF c1
      refine g_aload_n (pc1 := 20) C d_G_standingBehind_19 rfl rfl 0 rfl ?_
      refine get_WC_7_standing (pc1 := 23) C hK (v := (μ.1 7 4)) rfl kw_46 d_G_standingBehind_20 rfl ?_
      refine g_iload_n (pc1 := 24) C d_G_standingBehind_23 rfl rfl 1 rfl ?_
      obtain ⟨r1, hr1, hF⟩ := bnd_some hF
      refine g_callNI (pc1 := 27) (As := [.int (μ.1 7 4), .int x2]) (rest := []) C 2 (c_T_has l (μ.1 7 4) x2 r1 hr1) s_T_has 8 rfl rfl ⟨Nat.le_of_ble_eq_true rfl, Nat.le_of_ble_eq_true rfl⟩ ⟨rfl, rfl⟩ d_G_standingBehind_24 rfl rfl (Nat.le_of_ble_eq_true rfl) ?_
      refine g_if_ne (pc1 := 30) C 42 d_G_standingBehind_27 rfl (by decide) (fun c1 => ?_) (fun c1 => ?_)
      · replace hF := ite_f hF c1
        refine g_iload_n (pc1 := 43) C d_G_standingBehind_42 rfl rfl 1 rfl ?_
        exact g_iret C hr hlk d_G_standingBehind_43 (Option.some.inj hF) rfl
      · replace hF := ite_t hF c1
        refine g_aload_n (pc1 := 31) C d_G_standingBehind_30 rfl rfl 0 rfl ?_
        refine g_iload_n (pc1 := 32) C d_G_standingBehind_31 rfl rfl 1 rfl ?_
        obtain ⟨r2, hr2, hF⟩ := bnd_some hF
        refine g_callVI (pc1 := 35) (ws1 := WC a cs μ) (As := [.int x2]) (rest := []) (b := a 7) C hK 1 (c_G_behind l D cs a μ x2 r2 hr2) s_G_behind kw_60 7 rfl rfl rfl ⟨Nat.le_of_ble_eq_true rfl, Nat.le_of_ble_eq_true rfl⟩ ⟨rfl, rfl⟩ d_G_standingBehind_32 rfl rfl (Nat.le_of_ble_eq_true rfl) ?_
        refine g_istore_n (pc1 := 36) (L1 := [(2, .int r2), (0, .ref (a 7)), (3, .int x3)]) C d_G_standingBehind_35 rfl rfl (by decide) rfl ?_
        refine g_iinc (pc1 := 39) (v := (x3 + (1 : Int32))) (L1 := [(3, .int (x3 + (1 : Int32))), (2, .int r2), (0, .ref (a 7))]) C d_G_standingBehind_36 rfl 2 rfl (by rw [ic_1]) (by decide) rfl ?_
        refine g_goto C 8 d_G_standingBehind_39 (by decide) ?_
        exact g_sub [2, 1, 0] rfl (hK8 r2 (x3 + (1 : Int32)) hF)
set_option maxHeartbeats 4000000 in
set_option maxRecDepth 100000 in
theorem c_G_standingBehind (l : Launch) (D : va_G) (cs : Nat → ClassId) (a : Nat → Nat) (μ : Mem) (x1 : Int32) (r : Int32) (hF : F_G_standingBehind μ x1 = some r) : MetI l y_G_standingBehind b_G_standingBehind 4 (some .int) { frames := 1, cells := 0, slots := 0, locals := 21 } D cs (AC a) (WC a cs μ) [.ref (a 7), .int x1] r (WC a cs μ) := by
  refine met_of rfl (by decide +kernel) (Nat.le_of_ble_eq_true rfl) (fun p e s m below meth c C hK hr hlk => ?_)
  unfold F_G_standingBehind at hF
  show G p l e { frames := 1, cells := 0, slots := 0, locals := 21 } s m _ below meth c _ D (AC a) 4 (WC a cs μ) 0 [(0, .ref (a 7)), (1, .int x1)] []
  refine g_aload_n (pc1 := 1) C d_G_standingBehind_0 rfl rfl 0 rfl ?_
  refine g_iload_n (pc1 := 2) C d_G_standingBehind_1 rfl rfl 1 rfl ?_
  obtain ⟨r1, hr1, hF⟩ := bnd_some hF
  refine g_callVI (pc1 := 5) (ws1 := WC a cs μ) (As := [.int x1]) (rest := []) (b := a 7) C hK 1 (c_G_behind l D cs a μ x1 r1 hr1) s_G_behind kw_60 7 rfl rfl rfl ⟨Nat.le_of_ble_eq_true rfl, Nat.le_of_ble_eq_true rfl⟩ ⟨rfl, rfl⟩ d_G_standingBehind_2 rfl rfl (Nat.le_of_ble_eq_true rfl) ?_
  refine g_istore_n (pc1 := 6) (L1 := [(2, .int r1), (0, .ref (a 7)), (1, .int x1)]) C d_G_standingBehind_5 rfl rfl (by decide) rfl ?_
  refine g_iconst (pc1 := 7) (v := (0 : Int32)) C d_G_standingBehind_6 rfl ic_0 ?_
  refine g_istore_n (pc1 := 8) (L1 := [(3, .int (0 : Int32)), (2, .int r1), (0, .ref (a 7)), (1, .int x1)]) C d_G_standingBehind_7 rfl rfl (by decide) rfl ?_
  exact g_sub [2, 1, 0] rfl (p_G_standingBehind_8 C hK hr hlk  r1 (0 : Int32) hF)
-- TentPegs$Gale.standingAheadOf(I)I
set_option maxHeartbeats 4000000 in
set_option maxRecDepth 100000 in
theorem p_G_standingAheadOf_8 {p : Program} {l : Launch} {e : Env} {s : State} {m : MethodId} {args : Array Value} {below : List Frame} {meth : Method} {c : Code} {D : va_G} {cs : Nat → ClassId} {a : Nat → Nat} {μ : Mem} {r : Int32} (C : Cx p s m args c b_G_standingAheadOf 4 "TentPegs$Gale") (hK : va_K D classes (tys cs) s) (hr : meth.sig.returnType = (some .int)) (hlk : meth.locks = false)  : ∀ (x2 : Int32) (x3 : Int32), F_G_standingAheadOf_8  μ x2 x3 = some r → G p l e { frames := 1, cells := 0, slots := 0, locals := 21 } s m args below meth c (MQ below (Qi (AC a) D (WC a cs μ) r) args s 0 0 (AC a)) D (AC a) 4 (WC a cs μ) 8 [(0, .ref (a 7)), (2, .int x2), (3, .int x3)] [] := by
  refine iter_ind (fun (K8 : Mem → Int32 → Int32 → Option Int32) => ∀ (x2 : Int32) (x3 : Int32), K8 μ x2 x3 = some r → G p l e { frames := 1, cells := 0, slots := 0, locals := 21 } s m args below meth c (MQ below (Qi (AC a) D (WC a cs μ) r) args s 0 0 (AC a)) D (AC a) 4 (WC a cs μ) 8 [(0, .ref (a 7)), (2, .int x2), (3, .int x3)] []) ?_ ?_ NF
  · intro x2 x3 hF
    exact none_no hF
  · intro K8 hK8 x2 x3 hF
    unfold S_G_standingAheadOf_8 at hF
    refine g_iload_n (pc1 := 9) C d_G_standingAheadOf_8 rfl rfl 2 rfl ?_
    refine g_aload_n (pc1 := 10) C d_G_standingAheadOf_9 rfl rfl 0 rfl ?_
    refine get_WC_7_field (pc1 := 13) C hK kw_44 d_G_standingAheadOf_10 rfl ?_
    refine get_WC_1_pegs (pc1 := 16) C hK (v := (μ.1 1 0)) rfl kw_53 d_G_standingAheadOf_13 rfl ?_
    refine g_icmp_ge (pc1 := 19) C 42 d_G_standingAheadOf_16 rfl (by decide) (fun c1 => ?_) (fun c1 => ?_)
    · replace hF := ite_t hF c1
      refine g_iload_n (pc1 := 43) C d_G_standingAheadOf_42 rfl rfl 1 rfl ?_
      exact g_iret C hr hlk d_G_standingAheadOf_43 (Option.some.inj hF) rfl
    · replace hF := ite_f hF c1
      refine g_aload_n (pc1 := 20) C d_G_standingAheadOf_19 rfl rfl 0 rfl ?_
      refine get_WC_7_standing (pc1 := 23) C hK (v := (μ.1 7 4)) rfl kw_46 d_G_standingAheadOf_20 rfl ?_
      refine g_iload_n (pc1 := 24) C d_G_standingAheadOf_23 rfl rfl 1 rfl ?_
      obtain ⟨r1, hr1, hF⟩ := bnd_some hF
      refine g_callNI (pc1 := 27) (As := [.int (μ.1 7 4), .int x2]) (rest := []) C 2 (c_T_has l (μ.1 7 4) x2 r1 hr1) s_T_has 8 rfl rfl ⟨Nat.le_of_ble_eq_true rfl, Nat.le_of_ble_eq_true rfl⟩ ⟨rfl, rfl⟩ d_G_standingAheadOf_24 rfl rfl (Nat.le_of_ble_eq_true rfl) ?_
      refine g_if_ne (pc1 := 30) C 42 d_G_standingAheadOf_27 rfl (by decide) (fun c1 => ?_) (fun c1 => ?_)
      · replace hF := ite_f hF c1
        refine g_iload_n (pc1 := 43) C d_G_standingAheadOf_42 rfl rfl 1 rfl ?_
        exact g_iret C hr hlk d_G_standingAheadOf_43 (Option.some.inj hF) rfl
      · replace hF := ite_t hF c1
        refine g_aload_n (pc1 := 31) C d_G_standingAheadOf_30 rfl rfl 0 rfl ?_
        refine g_iload_n (pc1 := 32) C d_G_standingAheadOf_31 rfl rfl 1 rfl ?_
        obtain ⟨r2, hr2, hF⟩ := bnd_some hF
        refine g_callVI (pc1 := 35) (ws1 := WC a cs μ) (As := [.int x2]) (rest := []) (b := a 7) C hK 1 (c_G_aheadOf l D cs a μ x2 r2 hr2) s_G_aheadOf kw_59 7 rfl rfl rfl ⟨Nat.le_of_ble_eq_true rfl, Nat.le_of_ble_eq_true rfl⟩ ⟨rfl, rfl⟩ d_G_standingAheadOf_32 rfl rfl (Nat.le_of_ble_eq_true rfl) ?_
        refine g_istore_n (pc1 := 36) (L1 := [(2, .int r2), (0, .ref (a 7)), (3, .int x3)]) C d_G_standingAheadOf_35 rfl rfl (by decide) rfl ?_
        refine g_iinc (pc1 := 39) (v := (x3 + (1 : Int32))) (L1 := [(3, .int (x3 + (1 : Int32))), (2, .int r2), (0, .ref (a 7))]) C d_G_standingAheadOf_36 rfl 2 rfl (by rw [ic_1]) (by decide) rfl ?_
        refine g_goto C 8 d_G_standingAheadOf_39 (by decide) ?_
        exact g_sub [2, 1, 0] rfl (hK8 r2 (x3 + (1 : Int32)) hF)
set_option maxHeartbeats 4000000 in
set_option maxRecDepth 100000 in
theorem c_G_standingAheadOf (l : Launch) (D : va_G) (cs : Nat → ClassId) (a : Nat → Nat) (μ : Mem) (x1 : Int32) (r : Int32) (hF : F_G_standingAheadOf μ x1 = some r) : MetI l y_G_standingAheadOf b_G_standingAheadOf 4 (some .int) { frames := 1, cells := 0, slots := 0, locals := 21 } D cs (AC a) (WC a cs μ) [.ref (a 7), .int x1] r (WC a cs μ) := by
  refine met_of rfl (by decide +kernel) (Nat.le_of_ble_eq_true rfl) (fun p e s m below meth c C hK hr hlk => ?_)
  unfold F_G_standingAheadOf at hF
  show G p l e { frames := 1, cells := 0, slots := 0, locals := 21 } s m _ below meth c _ D (AC a) 4 (WC a cs μ) 0 [(0, .ref (a 7)), (1, .int x1)] []
  refine g_aload_n (pc1 := 1) C d_G_standingAheadOf_0 rfl rfl 0 rfl ?_
  refine g_iload_n (pc1 := 2) C d_G_standingAheadOf_1 rfl rfl 1 rfl ?_
  obtain ⟨r1, hr1, hF⟩ := bnd_some hF
  refine g_callVI (pc1 := 5) (ws1 := WC a cs μ) (As := [.int x1]) (rest := []) (b := a 7) C hK 1 (c_G_aheadOf l D cs a μ x1 r1 hr1) s_G_aheadOf kw_59 7 rfl rfl rfl ⟨Nat.le_of_ble_eq_true rfl, Nat.le_of_ble_eq_true rfl⟩ ⟨rfl, rfl⟩ d_G_standingAheadOf_2 rfl rfl (Nat.le_of_ble_eq_true rfl) ?_
  refine g_istore_n (pc1 := 6) (L1 := [(2, .int r1), (0, .ref (a 7)), (1, .int x1)]) C d_G_standingAheadOf_5 rfl rfl (by decide) rfl ?_
  refine g_iconst (pc1 := 7) (v := (0 : Int32)) C d_G_standingAheadOf_6 rfl ic_0 ?_
  refine g_istore_n (pc1 := 8) (L1 := [(3, .int (0 : Int32)), (2, .int r1), (0, .ref (a 7)), (1, .int x1)]) C d_G_standingAheadOf_7 rfl rfl (by decide) rfl ?_
  exact g_sub [2, 1, 0] rfl (p_G_standingAheadOf_8 C hK hr hlk  r1 (0 : Int32) hF)
-- TentPegs$Gale.handOn(I)V
set_option maxHeartbeats 4000000 in
set_option maxRecDepth 100000 in
theorem c_G_handOn (l : Launch) (D : va_G) (cs : Nat → ClassId) (a : Nat → Nat) (μ : Mem) (x1 : Int32) (μ1 : Mem) (hF : F_G_handOn μ x1 = some μ1) : MetV l y_G_handOn b_G_handOn 3 none { frames := 2, cells := 0, slots := 0, locals := 44 } D cs (AC a) (WC a cs μ) [.ref (a 7), .int x1] (WC a cs μ1) := by
  refine met_of rfl (by decide +kernel) (Nat.le_of_ble_eq_true rfl) (fun p e s m below meth c C hK hr hlk => ?_)
  unfold F_G_handOn at hF
  show G p l e { frames := 2, cells := 0, slots := 0, locals := 44 } s m _ below meth c _ D (AC a) 3 (WC a cs μ) 0 [(0, .ref (a 7)), (1, .int x1)] []
  refine g_aload_n (pc1 := 1) C d_G_handOn_0 rfl rfl 0 rfl ?_
  refine get_WC_7_standing (pc1 := 4) C hK (v := (μ.1 7 4)) rfl kw_46 d_G_handOn_1 rfl ?_
  refine g_if_ne (pc1 := 7) C 8 d_G_handOn_4 rfl (by decide) (fun c1 => ?_) (fun c1 => ?_)
  · replace hF := ite_f hF c1
    refine g_aload_n (pc1 := 9) C d_G_handOn_8 rfl rfl 0 rfl ?_
    refine get_WC_7_pulls (pc1 := 12) C hK kw_68 d_G_handOn_9 rfl ?_
    refine g_iload_n (pc1 := 13) C d_G_handOn_12 rfl rfl 1 rfl ?_
    have hg := gd_some hF
    replace hF := hg.2
    refine g_iald (pc1 := 14) C hK 8 (f := (μ.1 8)) rfl hg.1 d_G_handOn_13 rfl ?_
    refine g_iconst (pc1 := 15) (v := (1 : Int32)) C d_G_handOn_14 rfl ic_1 ?_
    refine g_iadd (pc1 := 16) C d_G_handOn_15 rfl ?_
    refine g_iconst (pc1 := 17) (v := (2 : Int32)) C d_G_handOn_16 rfl ic_2 ?_
    refine g_idiv (pc1 := 18) C d_G_handOn_17 rfl nzi_2 ?_
    refine g_istore_n (pc1 := 19) (L1 := [(2, .int ((((μ.1 8) x1.toNatClampNeg) + (1 : Int32)) / (2 : Int32))), (0, .ref (a 7)), (1, .int x1)]) C d_G_handOn_18 rfl rfl (by decide) rfl ?_
    refine g_aload_n (pc1 := 20) C d_G_handOn_19 rfl rfl 1 rfl ?_
    refine get_WC_7_pulls (pc1 := 23) C hK kw_68 d_G_handOn_20 rfl ?_
    refine g_aload_n (pc1 := 24) C d_G_handOn_23 rfl rfl 1 rfl ?_
    refine g_iload_n (pc1 := 25) C d_G_handOn_24 rfl rfl 2 rfl ?_
    obtain ⟨r1, hr1, hF⟩ := bnd_some hF
    refine g_callVI (pc1 := 28) (ws1 := WC a cs μ) (As := [.int x1]) (rest := [.ref (a 8)]) (b := a 7) C hK 1 (c_G_standingBehind l D cs a μ x1 r1 hr1) s_G_standingBehind kw_70 7 rfl rfl rfl ⟨Nat.le_of_ble_eq_true rfl, Nat.le_of_ble_eq_true rfl⟩ ⟨rfl, rfl⟩ d_G_handOn_25 rfl rfl (Nat.le_of_ble_eq_true rfl) ?_
    refine g_dup2 (pc1 := 29) C d_G_handOn_28 rfl rfl rfl ?_
    have hg := gd_some hF
    replace hF := hg.2
    refine g_iald (pc1 := 30) C hK 8 (f := (μ.1 8)) rfl hg.1 d_G_handOn_29 rfl ?_
    refine g_iload_n (pc1 := 31) C d_G_handOn_30 rfl rfl 0 rfl ?_
    refine g_iadd (pc1 := 32) C d_G_handOn_31 rfl ?_
    have hg := gd_some hF
    replace hF := hg.2
    refine g_iast (pc1 := 33) (ws1 := WC a cs (stI μ 8 r1.toNatClampNeg (((μ.1 8) r1.toNatClampNeg) + ((((μ.1 8) x1.toNatClampNeg) + (1 : Int32)) / (2 : Int32))))) C hK 8 (f := (μ.1 8)) rfl hg.1 (set_WC_8 _ _ _ _ _) d_G_handOn_32 rfl ?_
    refine g_aload_n (pc1 := 34) C d_G_handOn_33 rfl rfl 1 rfl ?_
    refine get_WC_7_pulls (pc1 := 37) C hK kw_68 d_G_handOn_34 rfl ?_
    refine g_aload_n (pc1 := 38) C d_G_handOn_37 rfl rfl 1 rfl ?_
    refine g_iload_n (pc1 := 39) C d_G_handOn_38 rfl rfl 2 rfl ?_
    obtain ⟨r2, hr2, hF⟩ := bnd_some hF
    refine g_callVI (pc1 := 42) (ws1 := WC a cs (stI μ 8 r1.toNatClampNeg (((μ.1 8) r1.toNatClampNeg) + ((((μ.1 8) x1.toNatClampNeg) + (1 : Int32)) / (2 : Int32))))) (As := [.int x1]) (rest := [.ref (a 8)]) (b := a 7) C hK 1 (c_G_standingAheadOf l D cs a (stI μ 8 r1.toNatClampNeg (((μ.1 8) r1.toNatClampNeg) + ((((μ.1 8) x1.toNatClampNeg) + (1 : Int32)) / (2 : Int32)))) x1 r2 hr2) s_G_standingAheadOf kw_71 7 rfl rfl rfl ⟨Nat.le_of_ble_eq_true rfl, Nat.le_of_ble_eq_true rfl⟩ ⟨rfl, rfl⟩ d_G_handOn_39 rfl rfl (Nat.le_of_ble_eq_true rfl) ?_
    refine g_dup2 (pc1 := 43) C d_G_handOn_42 rfl rfl rfl ?_
    have hg := gd_some hF
    replace hF := hg.2
    refine g_iald (pc1 := 44) C hK 8 (f := ((stI μ 8 r1.toNatClampNeg (((μ.1 8) r1.toNatClampNeg) + ((((μ.1 8) x1.toNatClampNeg) + (1 : Int32)) / (2 : Int32)))).1 8)) rfl hg.1 d_G_handOn_43 rfl ?_
    refine g_aload_n (pc1 := 45) C d_G_handOn_44 rfl rfl 1 rfl ?_
    refine get_WC_7_pulls (pc1 := 48) C hK kw_68 d_G_handOn_45 rfl ?_
    refine g_iload_n (pc1 := 49) C d_G_handOn_48 rfl rfl 2 rfl ?_
    have hg := gd_some hF
    replace hF := hg.2
    refine g_iald (pc1 := 50) C hK 8 (f := ((stI μ 8 r1.toNatClampNeg (((μ.1 8) r1.toNatClampNeg) + ((((μ.1 8) x1.toNatClampNeg) + (1 : Int32)) / (2 : Int32)))).1 8)) rfl hg.1 d_G_handOn_49 rfl ?_
    refine g_iload_n (pc1 := 51) C d_G_handOn_50 rfl rfl 0 rfl ?_
    refine g_isub (pc1 := 52) C d_G_handOn_51 rfl ?_
    refine g_iadd (pc1 := 53) C d_G_handOn_52 rfl ?_
    have hg := gd_some hF
    replace hF := hg.2
    refine g_iast (pc1 := 54) (ws1 := WC a cs (stI (stI μ 8 r1.toNatClampNeg (((μ.1 8) r1.toNatClampNeg) + ((((μ.1 8) x1.toNatClampNeg) + (1 : Int32)) / (2 : Int32)))) 8 r2.toNatClampNeg ((((stI μ 8 r1.toNatClampNeg (((μ.1 8) r1.toNatClampNeg) + ((((μ.1 8) x1.toNatClampNeg) + (1 : Int32)) / (2 : Int32)))).1 8) r2.toNatClampNeg) + ((((stI μ 8 r1.toNatClampNeg (((μ.1 8) r1.toNatClampNeg) + ((((μ.1 8) x1.toNatClampNeg) + (1 : Int32)) / (2 : Int32)))).1 8) x1.toNatClampNeg) - ((((μ.1 8) x1.toNatClampNeg) + (1 : Int32)) / (2 : Int32)))))) C hK 8 (f := ((stI μ 8 r1.toNatClampNeg (((μ.1 8) r1.toNatClampNeg) + ((((μ.1 8) x1.toNatClampNeg) + (1 : Int32)) / (2 : Int32)))).1 8)) rfl hg.1 (set_WC_8 _ _ _ _ _) d_G_handOn_53 rfl ?_
    exact g_vret C hr hlk d_G_handOn_54 (congrArg (WC a cs) (Option.some.inj hF))
  · replace hF := ite_t hF c1
    exact g_vret C hr hlk d_G_handOn_7 (congrArg (WC a cs) (Option.some.inj hF))
-- TentPegs$Gale.blow(II)V
set_option maxHeartbeats 4000000 in
set_option maxRecDepth 100000 in
theorem p_G_blow_39 {p : Program} {l : Launch} {e : Env} {s : State} {m : MethodId} {args : Array Value} {below : List Frame} {meth : Method} {c : Code} {D : va_G} {cs : Nat → ClassId} {a : Nat → Nat} {μ1 : Mem} (C : Cx p s m args c b_G_blow 5 "TentPegs$Gale") (hK : va_K D classes (tys cs) s) (hr : meth.sig.returnType = none) (hlk : meth.locks = false)  : ∀ (μ : Mem) (x3 : Int32), F_G_blow_39  μ x3 = some μ1 → G p l e { frames := 5, cells := 0, slots := 0, locals := 111 } s m args below meth c (MQ below (Qv (AC a) D (WC a cs μ1)) args s 0 0 (AC a)) D (AC a) 5 (WC a cs μ) 39 [(0, .ref (a 7)), (3, .int x3)] [] := by
  refine iter_ind (fun (K39 : Mem → Int32 → Option Mem) => ∀ (μ : Mem) (x3 : Int32), K39 μ x3 = some μ1 → G p l e { frames := 5, cells := 0, slots := 0, locals := 111 } s m args below meth c (MQ below (Qv (AC a) D (WC a cs μ1)) args s 0 0 (AC a)) D (AC a) 5 (WC a cs μ) 39 [(0, .ref (a 7)), (3, .int x3)] []) ?_ ?_ NF
  · intro μ x3 hF
    exact none_no hF
  · intro K39 hK39 μ x3 hF
    unfold S_G_blow_39 at hF
    refine g_iload_n (pc1 := 40) C d_G_blow_39 rfl rfl 1 rfl ?_
    refine g_aload_n (pc1 := 41) C d_G_blow_40 rfl rfl 0 rfl ?_
    refine get_WC_7_field (pc1 := 44) C hK kw_44 d_G_blow_41 rfl ?_
    refine get_WC_1_pegs (pc1 := 47) C hK (v := (μ.1 1 0)) rfl kw_53 d_G_blow_44 rfl ?_
    refine g_icmp_ge (pc1 := 50) C 110 d_G_blow_47 rfl (by decide) (fun c1 => ?_) (fun c1 => ?_)
    · replace hF := ite_t hF c1
      exact g_vret C hr hlk d_G_blow_110 (congrArg (WC a cs) (Option.some.inj hF))
    · replace hF := ite_f hF c1
      refine g_aload_n (pc1 := 51) C d_G_blow_50 rfl rfl 0 rfl ?_
      obtain ⟨r1, hr1, hF⟩ := bnd_some hF
      refine g_callVI (pc1 := 54) (ws1 := WC a cs μ) (As := []) (rest := []) (b := a 7) C hK 0 (c_G_nextToGo l D cs a μ  r1 hr1) s_G_nextToGo kw_74 7 rfl rfl rfl ⟨Nat.le_of_ble_eq_true rfl, Nat.le_of_ble_eq_true rfl⟩ ⟨rfl, rfl⟩ d_G_blow_51 rfl rfl (Nat.le_of_ble_eq_true rfl) ?_
      refine g_istore (pc1 := 56) (L1 := [(4, .int r1), (0, .ref (a 7)), (3, .int x3)]) C d_G_blow_54 rfl (by decide) rfl ?_
      refine g_iload (pc1 := 58) C d_G_blow_56 rfl 0 rfl ?_
      refine g_iconst (pc1 := 59) (v := (-1 : Int32)) C d_G_blow_58 rfl ic_m1 ?_
      refine g_icmp_ne (pc1 := 62) C 63 d_G_blow_59 rfl (by decide) (fun c1 => ?_) (fun c1 => ?_)
      · replace hF := ite_f hF c1
        refine g_aload_n (pc1 := 64) C d_G_blow_63 rfl rfl 1 rfl ?_
        refine g_aload_n (pc1 := 65) C d_G_blow_64 rfl rfl 1 rfl ?_
        refine get_WC_7_standing (pc1 := 68) C hK (v := (μ.1 7 4)) rfl kw_46 d_G_blow_65 rfl ?_
        refine g_iload (pc1 := 70) C d_G_blow_68 rfl 0 rfl ?_
        refine g_iconst (pc1 := 71) (v := (0 : Int32)) C d_G_blow_70 rfl ic_0 ?_
        obtain ⟨r2, hr2, hF⟩ := bnd_some hF
        refine g_callNI (pc1 := 74) (As := [.int (μ.1 7 4), .int r1, .int (0 : Int32)]) (rest := [.ref (a 7)]) C 3 (c_T_with l (μ.1 7 4) r1 (0 : Int32) r2 hr2) s_T_with 9 rfl rfl ⟨Nat.le_of_ble_eq_true rfl, Nat.le_of_ble_eq_true rfl⟩ ⟨rfl, rfl⟩ d_G_blow_71 rfl rfl (Nat.le_of_ble_eq_true rfl) ?_
        refine put_WC_7_standing (pc1 := 77) C hK kw_46 d_G_blow_74 rfl ?_
        refine g_aload_n (pc1 := 78) C d_G_blow_77 rfl rfl 1 rfl ?_
        refine get_WC_7_went (pc1 := 81) C hK kw_75 d_G_blow_78 rfl ?_
        refine g_aload_n (pc1 := 82) C d_G_blow_81 rfl rfl 1 rfl ?_
        refine get_WC_7_gone (pc1 := 85) C hK (v := (μ.1 7 3)) rfl kw_72 d_G_blow_82 rfl ?_
        refine g_iload (pc1 := 87) C d_G_blow_85 rfl 0 rfl ?_
        have hg := gd_some hF
        replace hF := hg.2
        refine g_iast (pc1 := 88) (ws1 := WC a cs (stI (stI μ 7 4 r2) 9 (μ.1 7 3).toNatClampNeg r1)) C hK 9 (f := (μ.1 9)) rfl hg.1 (set_WC_9 _ _ _ _ _) d_G_blow_87 rfl ?_
        refine g_aload_n (pc1 := 89) C d_G_blow_88 rfl rfl 1 rfl ?_
        refine g_dup (pc1 := 90) C d_G_blow_89 rfl rfl ?_
        refine get_WC_7_gone (pc1 := 93) C hK (v := (μ.1 7 3)) rfl kw_72 d_G_blow_90 rfl ?_
        refine g_iconst (pc1 := 94) (v := (1 : Int32)) C d_G_blow_93 rfl ic_1 ?_
        refine g_iadd (pc1 := 95) C d_G_blow_94 rfl ?_
        refine put_WC_7_gone (pc1 := 98) C hK kw_72 d_G_blow_95 rfl ?_
        refine g_aload_n (pc1 := 99) C d_G_blow_98 rfl rfl 1 rfl ?_
        refine g_iload (pc1 := 101) C d_G_blow_99 rfl 0 rfl ?_
        obtain ⟨m3, hm3, hF⟩ := bnd_some hF
        refine g_callVV (pc1 := 104) (ws1 := WC a cs m3) (As := [.int r1]) (rest := []) (b := a 7) C hK 1 (c_G_handOn l D cs a (stI (stI (stI μ 7 4 r2) 9 (μ.1 7 3).toNatClampNeg r1) 7 3 ((μ.1 7 3) + (1 : Int32))) r1 m3 hm3) s_G_handOn kw_76 7 rfl rfl rfl ⟨Nat.le_of_ble_eq_true rfl, Nat.le_of_ble_eq_true rfl⟩ ⟨rfl, rfl⟩ d_G_blow_101 rfl rfl (Nat.le_of_ble_eq_true rfl) ?_
        refine g_iinc (pc1 := 107) (v := (x3 + (1 : Int32))) (L1 := [(3, .int (x3 + (1 : Int32))), (4, .int r1), (0, .ref (a 7))]) C d_G_blow_104 rfl 2 rfl (by rw [ic_1]) (by decide) rfl ?_
        refine g_goto C 39 d_G_blow_107 (by decide) ?_
        exact g_sub [2, 0] rfl (hK39 m3 (x3 + (1 : Int32)) hF)
      · replace hF := ite_t hF c1
        exact g_vret C hr hlk d_G_blow_62 (congrArg (WC a cs) (Option.some.inj hF))
set_option maxHeartbeats 4000000 in
set_option maxRecDepth 100000 in
theorem p_G_blow_7 {p : Program} {l : Launch} {e : Env} {s : State} {m : MethodId} {args : Array Value} {below : List Frame} {meth : Method} {c : Code} {D : va_G} {cs : Nat → ClassId} {a : Nat → Nat} {μ1 : Mem} (C : Cx p s m args c b_G_blow 5 "TentPegs$Gale") (hK : va_K D classes (tys cs) s) (hr : meth.sig.returnType = none) (hlk : meth.locks = false)  : ∀ (μ : Mem) (x1 : Int32) (x2 : Int32) (x3 : Int32), F_G_blow_7  μ x1 x2 x3 = some μ1 → G p l e { frames := 5, cells := 0, slots := 0, locals := 111 } s m args below meth c (MQ below (Qv (AC a) D (WC a cs μ1)) args s 0 0 (AC a)) D (AC a) 5 (WC a cs μ) 7 [(0, .ref (a 7)), (1, .int x1), (2, .int x2), (3, .int x3)] [] := by
  refine iter_ind (fun (K7 : Mem → Int32 → Int32 → Int32 → Option Mem) => ∀ (μ : Mem) (x1 : Int32) (x2 : Int32) (x3 : Int32), K7 μ x1 x2 x3 = some μ1 → G p l e { frames := 5, cells := 0, slots := 0, locals := 111 } s m args below meth c (MQ below (Qv (AC a) D (WC a cs μ1)) args s 0 0 (AC a)) D (AC a) 5 (WC a cs μ) 7 [(0, .ref (a 7)), (1, .int x1), (2, .int x2), (3, .int x3)] []) ?_ ?_ NF
  · intro μ x1 x2 x3 hF
    exact none_no hF
  · intro K7 hK7 μ x1 x2 x3 hF
    unfold S_G_blow_7 at hF
    refine g_iload_n (pc1 := 8) C d_G_blow_7 rfl rfl 3 rfl ?_
    refine g_aload_n (pc1 := 9) C d_G_blow_8 rfl rfl 0 rfl ?_
    refine get_WC_7_field (pc1 := 12) C hK kw_44 d_G_blow_9 rfl ?_
    refine get_WC_1_pegs (pc1 := 15) C hK (v := (μ.1 1 0)) rfl kw_53 d_G_blow_12 rfl ?_
    refine g_icmp_ge (pc1 := 18) C 37 d_G_blow_15 rfl (by decide) (fun c1 => ?_) (fun c1 => ?_)
    · replace hF := ite_t hF c1
      refine g_iconst (pc1 := 38) (v := (0 : Int32)) C d_G_blow_37 rfl ic_0 ?_
      refine g_istore_n (pc1 := 39) (L1 := [(3, .int (0 : Int32)), (0, .ref (a 7)), (1, .int x1), (2, .int x2)]) C d_G_blow_38 rfl rfl (by decide) rfl ?_
      exact g_sub [1, 0] rfl (p_G_blow_39 C hK hr hlk  μ (0 : Int32) hF)
    · replace hF := ite_f hF c1
      refine g_aload_n (pc1 := 19) C d_G_blow_18 rfl rfl 0 rfl ?_
      refine get_WC_7_pulls (pc1 := 22) C hK kw_68 d_G_blow_19 rfl ?_
      refine g_iload_n (pc1 := 23) C d_G_blow_22 rfl rfl 3 rfl ?_
      refine g_aload_n (pc1 := 24) C d_G_blow_23 rfl rfl 0 rfl ?_
      refine g_iload_n (pc1 := 25) C d_G_blow_24 rfl rfl 3 rfl ?_
      refine g_iload_n (pc1 := 26) C d_G_blow_25 rfl rfl 1 rfl ?_
      refine g_iload_n (pc1 := 27) C d_G_blow_26 rfl rfl 2 rfl ?_
      obtain ⟨r1, hr1, hF⟩ := bnd_some hF
      refine g_callVI (pc1 := 30) (ws1 := WC a cs μ) (As := [.int x3, .int x1, .int x2]) (rest := [.int x3, .ref (a 8)]) (b := a 7) C hK 3 (c_G_pullOn l D cs a μ x3 x1 x2 r1 hr1) s_G_pullOn kw_73 7 rfl rfl rfl ⟨Nat.le_of_ble_eq_true rfl, Nat.le_of_ble_eq_true rfl⟩ ⟨rfl, rfl⟩ d_G_blow_27 rfl rfl (Nat.le_of_ble_eq_true rfl) ?_
      have hg := gd_some hF
      replace hF := hg.2
      refine g_iast (pc1 := 31) (ws1 := WC a cs (stI μ 8 x3.toNatClampNeg r1)) C hK 8 (f := (μ.1 8)) rfl hg.1 (set_WC_8 _ _ _ _ _) d_G_blow_30 rfl ?_
      refine g_iinc (pc1 := 34) (v := (x3 + (1 : Int32))) (L1 := [(3, .int (x3 + (1 : Int32))), (0, .ref (a 7)), (1, .int x1), (2, .int x2)]) C d_G_blow_31 rfl 3 rfl (by rw [ic_1]) (by decide) rfl ?_
      refine g_goto C 7 d_G_blow_34 (by decide) ?_
      exact g_sub [1, 2, 3, 0] rfl (hK7 (stI μ 8 x3.toNatClampNeg r1) x1 x2 (x3 + (1 : Int32)) hF)
set_option maxHeartbeats 4000000 in
set_option maxRecDepth 100000 in
theorem c_G_blow (l : Launch) (D : va_G) (cs : Nat → ClassId) (a : Nat → Nat) (μ : Mem) (x1 : Int32) (x2 : Int32) (μ1 : Mem) (hF : F_G_blow μ x1 x2 = some μ1) : MetV l y_G_blow b_G_blow 5 none { frames := 5, cells := 0, slots := 0, locals := 111 } D cs (AC a) (WC a cs μ) [.ref (a 7), .int x1, .int x2] (WC a cs μ1) := by
  refine met_of rfl (by decide +kernel) (Nat.le_of_ble_eq_true rfl) (fun p e s m below meth c C hK hr hlk => ?_)
  unfold F_G_blow at hF
  show G p l e { frames := 5, cells := 0, slots := 0, locals := 111 } s m _ below meth c _ D (AC a) 5 (WC a cs μ) 0 [(0, .ref (a 7)), (1, .int x1), (2, .int x2)] []
  refine g_aload_n (pc1 := 1) C d_G_blow_0 rfl rfl 0 rfl ?_
  refine g_iconst (pc1 := 2) (v := (0 : Int32)) C d_G_blow_1 rfl ic_0 ?_
  refine put_WC_7_gone (pc1 := 5) C hK kw_72 d_G_blow_2 rfl ?_
  refine g_iconst (pc1 := 6) (v := (0 : Int32)) C d_G_blow_5 rfl ic_0 ?_
  refine g_istore_n (pc1 := 7) (L1 := [(3, .int (0 : Int32)), (0, .ref (a 7)), (1, .int x1), (2, .int x2)]) C d_G_blow_6 rfl rfl (by decide) rfl ?_
  exact g_sub [1, 2, 3, 0] rfl (p_G_blow_7 C hK hr hlk  (stI μ 7 3 (0 : Int32)) x1 x2 (0 : Int32) hF)
-- TentPegs.gust(II)I
set_option maxHeartbeats 4000000 in
set_option maxRecDepth 100000 in
theorem c_T_gust (l : Launch) (D : va_G) (cs : Nat → ClassId) (a : Nat → Nat) (μ : Mem) (x1 : Int32) (x2 : Int32) (r : Int32) (μ1 : Mem) (hF : F_T_gust μ x1 x2 = some (r, μ1)) : MetI l y_T_gust b_T_gust 3 (some .int) { frames := 6, cells := 0, slots := 0, locals := 135 } D cs (AC a) (WC a cs μ) [.ref (a 0), .int x1, .int x2] r (WC a cs μ1) := by
  refine met_of rfl (by decide +kernel) (Nat.le_of_ble_eq_true rfl) (fun p e s m below meth c C hK hr hlk => ?_)
  unfold F_T_gust at hF
  show G p l e { frames := 6, cells := 0, slots := 0, locals := 135 } s m _ below meth c _ D (AC a) 3 (WC a cs μ) 0 [(0, .ref (a 0)), (1, .int x1), (2, .int x2)] []
  refine g_iload_n (pc1 := 1) C d_T_gust_0 rfl rfl 1 rfl ?_
  refine g_iload_n (pc1 := 2) C d_T_gust_1 rfl rfl 2 rfl ?_
  obtain ⟨r1, hr1, hF⟩ := bnd_some hF
  refine g_callSI (pc1 := 5) (As := [.int x1, .int x2]) (rest := []) C 2 (c_T_isGust l x1 x2 r1 hr1) s_T_isGust kw_77 rfl ⟨Nat.le_of_ble_eq_true rfl, Nat.le_of_ble_eq_true rfl⟩ ⟨rfl, rfl⟩ d_T_gust_2 rfl rfl (Nat.le_of_ble_eq_true rfl) ?_
  refine g_if_ne (pc1 := 8) C 15 d_T_gust_5 rfl (by decide) (fun c1 => ?_) (fun c1 => ?_)
  · replace hF := ite_f hF c1
    refine g_aload_n (pc1 := 16) C d_T_gust_15 rfl rfl 0 rfl ?_
    refine get_WC_0_field (pc1 := 19) C hK kw_12 d_T_gust_16 rfl ?_
    refine get_WC_1_standing (pc1 := 22) C hK (v := (μ.1 1 3)) rfl kw_78 d_T_gust_19 rfl ?_
    obtain ⟨r2, hr2, hF⟩ := bnd_some hF
    refine g_callSI (pc1 := 25) (As := [.int (μ.1 1 3)]) (rest := []) C 1 (c_T_isLost l (μ.1 1 3) r2 hr2) s_T_isLost kw_79 rfl ⟨Nat.le_of_ble_eq_true rfl, Nat.le_of_ble_eq_true rfl⟩ ⟨rfl, rfl⟩ d_T_gust_22 rfl rfl (Nat.le_of_ble_eq_true rfl) ?_
    refine g_if_eq (pc1 := 28) C 33 d_T_gust_25 rfl (by decide) (fun c1 => ?_) (fun c1 => ?_)
    · replace hF := ite_t hF c1
      refine g_aload_n (pc1 := 34) C d_T_gust_33 rfl rfl 0 rfl ?_
      refine get_WC_0_field (pc1 := 37) C hK kw_12 d_T_gust_34 rfl ?_
      obtain ⟨m3, hm3, hF⟩ := bnd_some hF
      refine g_callFV (pc1 := 40) (ws1 := WC a cs (put6 1 0 μ m3)) (As := []) (rest := []) (b := a 1) C hK 0 (fr_1 a cs μ m3) (c_F_remember l D cs (off 1 a) (sub 1 μ)  m3 hm3) s_F_remember kw_80 1 rfl rfl rfl ⟨Nat.le_of_ble_eq_true rfl, Nat.le_of_ble_eq_true rfl⟩ ⟨rfl, rfl⟩ d_T_gust_37 rfl rfl (Nat.le_of_ble_eq_true rfl) ?_
      refine g_aload_n (pc1 := 41) C d_T_gust_40 rfl rfl 0 rfl ?_
      obtain ⟨m4, hm4, hF⟩ := bnd_some hF
      refine g_callVR (pc1 := 44) (ws1 := WC a cs m4) (As := []) (rest := []) (b := a 0) C hK 0 (c_T_asItIs l D cs a (put6 1 0 μ m3)  m4 hm4) s_T_asItIs kw_81 0 rfl rfl rfl ⟨Nat.le_of_ble_eq_true rfl, Nat.le_of_ble_eq_true rfl⟩ ⟨rfl, rfl⟩ d_T_gust_41 rfl rfl (Nat.le_of_ble_eq_true rfl) ?_
      refine g_iload_n (pc1 := 45) C d_T_gust_44 rfl rfl 1 rfl ?_
      refine g_iload_n (pc1 := 46) C d_T_gust_45 rfl rfl 2 rfl ?_
      obtain ⟨m5, hm5, hF⟩ := bnd_some hF
      refine g_callVV (pc1 := 49) (ws1 := WC a cs m5) (As := [.int x1, .int x2]) (rest := []) (b := a 7) C hK 2 (c_G_blow l D cs a m4 x1 x2 m5 hm5) s_G_blow kw_82 7 rfl rfl rfl ⟨Nat.le_of_ble_eq_true rfl, Nat.le_of_ble_eq_true rfl⟩ ⟨rfl, rfl⟩ d_T_gust_46 rfl rfl (Nat.le_of_ble_eq_true rfl) ?_
      refine g_aload_n (pc1 := 50) C d_T_gust_49 rfl rfl 0 rfl ?_
      refine get_WC_0_field (pc1 := 53) C hK kw_12 d_T_gust_50 rfl ?_
      refine g_aload_n (pc1 := 54) C d_T_gust_53 rfl rfl 0 rfl ?_
      refine get_WC_0_gale (pc1 := 57) C hK kw_51 d_T_gust_54 rfl ?_
      refine get_WC_7_standing (pc1 := 60) C hK (v := (m5.1 7 4)) rfl kw_83 d_T_gust_57 rfl ?_
      refine put_WC_1_standing (pc1 := 63) C hK kw_78 d_T_gust_60 rfl ?_
      refine g_aload_n (pc1 := 64) C d_T_gust_63 rfl rfl 0 rfl ?_
      refine get_WC_0_gale (pc1 := 67) C hK kw_51 d_T_gust_64 rfl ?_
      refine get_WC_7_gone (pc1 := 70) C hK (v := (m5.1 7 3)) rfl kw_84 d_T_gust_67 rfl ?_
      exact g_iret C hr hlk d_T_gust_70 (fst_of hF) (congrArg (WC a cs) (snd_of hF))
    · replace hF := ite_f hF c1
      refine g_aload_n (pc1 := 29) C d_T_gust_28 rfl rfl 0 rfl ?_
      obtain ⟨⟨r6, m6⟩, hm6, hF⟩ := bnd_some hF
      refine g_callVI (pc1 := 32) (ws1 := WC a cs m6) (As := []) (rest := []) (b := a 0) C hK 0 (c_T_no l D cs a μ  r6 m6 hm6) s_T_no kw_27 0 rfl rfl rfl ⟨Nat.le_of_ble_eq_true rfl, Nat.le_of_ble_eq_true rfl⟩ ⟨rfl, rfl⟩ d_T_gust_29 rfl rfl (Nat.le_of_ble_eq_true rfl) ?_
      exact g_iret C hr hlk d_T_gust_32 (fst_of hF) (congrArg (WC a cs) (snd_of hF))
  · replace hF := ite_t hF c1
    refine g_aload_n (pc1 := 9) C d_T_gust_8 rfl rfl 0 rfl ?_
    refine g_bipush (pc1 := 11) (v := (-2 : Int32)) C d_T_gust_9 rfl bp_m2 ?_
    obtain ⟨⟨r7, m7⟩, hm7, hF⟩ := bnd_some hF
    refine g_callVI (pc1 := 14) (ws1 := WC a cs m7) (As := [.int (-2 : Int32)]) (rest := []) (b := a 0) C hK 1 (c_T_bad l D cs a μ (-2 : Int32) r7 m7 hm7) s_T_bad kw_15 0 rfl rfl rfl ⟨Nat.le_of_ble_eq_true rfl, Nat.le_of_ble_eq_true rfl⟩ ⟨rfl, rfl⟩ d_T_gust_11 rfl rfl (Nat.le_of_ble_eq_true rfl) ?_
    exact g_iret C hr hlk d_T_gust_14 (fst_of hF) (congrArg (WC a cs) (snd_of hF))
