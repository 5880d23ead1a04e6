-- TentPegsModel.worth(II)I
set_option maxHeartbeats 4000000 in
set_option maxRecDepth 100000 in
theorem c_M_worth (l : Launch) (D : va_G) (cs : Nat → ClassId) (a : Nat → Nat) (μ : Mem) (x1 : Int32) (x2 : Int32) (r : Int32) (μ1 : Mem) (hF : F_M_worth μ x1 x2 = some (r, μ1)) : MetI l y_M_worth b_M_worth 3 (some .int) { frames := 5, cells := 0, slots := 0, locals := 122 } D cs (AM a) (WM a cs μ) [.ref (a 0), .int x1, .int x2] r (WM a cs μ1) := by
  refine met_of rfl (by decide +kernel) (Nat.le_of_ble_eq_true rfl) (fun p e s m below meth c C hK hr hlk => ?_)
  unfold F_M_worth at hF
  show G p l e { frames := 5, cells := 0, slots := 0, locals := 122 } s m _ below meth c _ D (AM a) 3 (WM a cs μ) 0 [(0, .ref (a 0)), (1, .int x1), (2, .int x2)] []
  refine g_aload_n (pc1 := 1) C d_M_worth_0 rfl rfl 0 rfl ?_
  refine g_iconst (pc1 := 2) (v := (0 : Int32)) C d_M_worth_1 rfl ic_0 ?_
  refine put_WM_0_thrown (pc1 := 5) C hK kw_178 d_M_worth_2 rfl ?_
  refine g_iload_n (pc1 := 6) C d_M_worth_5 rfl rfl 1 rfl ?_
  refine g_iload_n (pc1 := 7) C d_M_worth_6 rfl rfl 2 rfl ?_
  obtain ⟨r1, hr1, hF⟩ := bnd_some hF
  refine g_callSI (pc1 := 10) (As := [.int x1, .int x2]) (rest := []) C 2 (c_M_noGust l x1 x2 r1 hr1) s_M_noGust kw_233 rfl ⟨Nat.le_of_ble_eq_true rfl, Nat.le_of_ble_eq_true rfl⟩ ⟨rfl, rfl⟩ d_M_worth_7 rfl rfl (Nat.le_of_ble_eq_true rfl) ?_
  refine g_if_eq (pc1 := 13) C 18 d_M_worth_10 rfl (by decide) (fun c1 => ?_) (fun c1 => ?_)
  · replace hF := ite_t hF c1
    refine g_aload_n (pc1 := 19) C d_M_worth_18 rfl rfl 0 rfl ?_
    obtain ⟨r2, hr2, hF⟩ := bnd_some hF
    refine g_callVI (pc1 := 22) (ws1 := WM a cs (stI μ 0 0 (0 : Int32))) (As := []) (rest := []) (b := a 0) C hK 0 (c_M_allOdds l D cs a (stI μ 0 0 (0 : Int32))  r2 hr2) s_M_allOdds kw_246 0 rfl rfl rfl ⟨Nat.le_of_ble_eq_true rfl, Nat.le_of_ble_eq_true rfl⟩ ⟨rfl, rfl⟩ d_M_worth_19 rfl rfl (Nat.le_of_ble_eq_true rfl) ?_
    refine g_if_ne (pc1 := 25) C 30 d_M_worth_22 rfl (by decide) (fun c1 => ?_) (fun c1 => ?_)
    · replace hF := ite_f hF c1
      refine g_aload_n (pc1 := 31) C d_M_worth_30 rfl rfl 0 rfl ?_
      refine g_aload_n (pc1 := 32) C d_M_worth_31 rfl rfl 0 rfl ?_
      refine g_iload_n (pc1 := 33) C d_M_worth_32 rfl rfl 2 rfl ?_
      refine g_iconst (pc1 := 34) (v := (0 : Int32)) C d_M_worth_33 rfl ic_0 ?_
      refine g_aload_n (pc1 := 35) C d_M_worth_34 rfl rfl 0 rfl ?_
      refine get_WM_0_field (pc1 := 38) C hK kw_172 d_M_worth_35 rfl ?_
      refine g_iconst (pc1 := 39) (v := (3 : Int32)) C d_M_worth_38 rfl ic_3 ?_
      have hg := gd_some hF
      replace hF := hg.2
      refine g_iald (pc1 := 40) C hK 2 (f := (μ.1 2)) rfl hg.1 d_M_worth_39 rfl ?_
      refine g_iconst (pc1 := 41) (v := (1 : Int32)) C d_M_worth_40 rfl ic_1 ?_
      refine g_iload_n (pc1 := 42) C d_M_worth_41 rfl rfl 1 rfl ?_
      refine g_ishl (pc1 := 43) C d_M_worth_42 rfl ?_
      refine g_ior (pc1 := 44) C d_M_worth_43 rfl ?_
      obtain ⟨r3, hr3, hF⟩ := bnd_some hF
      refine g_callVI (pc1 := 47) (ws1 := WM a cs (stI μ 0 0 (0 : Int32))) (As := [.int x2, .int (0 : Int32), .int (((μ.1 2) (3 : Int32).toNatClampNeg) ||| ((1 : Int32) <<< (x1 &&& 31)))]) (rest := [.ref (a 0)]) (b := a 0) C hK 3 (c_M_goodOdds l D cs a (stI μ 0 0 (0 : Int32)) x2 (0 : Int32) (((μ.1 2) (3 : Int32).toNatClampNeg) ||| ((1 : Int32) <<< (x1 &&& 31))) r3 hr3) s_M_goodOdds kw_247 0 rfl rfl rfl ⟨Nat.le_of_ble_eq_true rfl, Nat.le_of_ble_eq_true rfl⟩ ⟨rfl, rfl⟩ d_M_worth_44 rfl rfl (Nat.le_of_ble_eq_true rfl) ?_
      refine g_aload_n (pc1 := 48) C d_M_worth_47 rfl rfl 0 rfl ?_
      refine g_iload_n (pc1 := 49) C d_M_worth_48 rfl rfl 2 rfl ?_
      refine g_iconst (pc1 := 50) (v := (0 : Int32)) C d_M_worth_49 rfl ic_0 ?_
      refine g_aload_n (pc1 := 51) C d_M_worth_50 rfl rfl 0 rfl ?_
      refine get_WM_0_field (pc1 := 54) C hK kw_172 d_M_worth_51 rfl ?_
      refine g_iconst (pc1 := 55) (v := (3 : Int32)) C d_M_worth_54 rfl ic_3 ?_
      have hg := gd_some hF
      replace hF := hg.2
      refine g_iald (pc1 := 56) C hK 2 (f := (μ.1 2)) rfl hg.1 d_M_worth_55 rfl ?_
      obtain ⟨r4, hr4, hF⟩ := bnd_some hF
      refine g_callVI (pc1 := 59) (ws1 := WM a cs (stI μ 0 0 (0 : Int32))) (As := [.int x2, .int (0 : Int32), .int ((μ.1 2) (3 : Int32).toNatClampNeg)]) (rest := [.int r3, .ref (a 0)]) (b := a 0) C hK 3 (c_M_goodOdds l D cs a (stI μ 0 0 (0 : Int32)) x2 (0 : Int32) ((μ.1 2) (3 : Int32).toNatClampNeg) r4 hr4) s_M_goodOdds kw_247 0 rfl rfl rfl ⟨Nat.le_of_ble_eq_true rfl, Nat.le_of_ble_eq_true rfl⟩ ⟨rfl, rfl⟩ d_M_worth_56 rfl rfl (Nat.le_of_ble_eq_true rfl) ?_
      refine g_isub (pc1 := 60) C d_M_worth_59 rfl ?_
      refine g_aload_n (pc1 := 61) C d_M_worth_60 rfl rfl 0 rfl ?_
      obtain ⟨r5, hr5, hF⟩ := bnd_some hF
      refine g_callVI (pc1 := 64) (ws1 := WM a cs (stI μ 0 0 (0 : Int32))) (As := []) (rest := [.int (r3 - r4), .ref (a 0)]) (b := a 0) C hK 0 (c_M_allOdds l D cs a (stI μ 0 0 (0 : Int32))  r5 hr5) s_M_allOdds kw_246 0 rfl rfl rfl ⟨Nat.le_of_ble_eq_true rfl, Nat.le_of_ble_eq_true rfl⟩ ⟨rfl, rfl⟩ d_M_worth_61 rfl rfl (Nat.le_of_ble_eq_true rfl) ?_
      obtain ⟨m6, hm6, hF⟩ := bnd_some hF
      refine g_callVV (pc1 := 67) (ws1 := WM a cs m6) (As := [.int (r3 - r4), .int r5]) (rest := []) (b := a 0) C hK 2 (c_M_setPart l D cs a (stI μ 0 0 (0 : Int32)) (r3 - r4) r5 m6 hm6) s_M_setPart kw_248 0 rfl rfl rfl ⟨Nat.le_of_ble_eq_true rfl, Nat.le_of_ble_eq_true rfl⟩ ⟨rfl, rfl⟩ d_M_worth_64 rfl rfl (Nat.le_of_ble_eq_true rfl) ?_
      refine g_iconst (pc1 := 68) (v := (1 : Int32)) C d_M_worth_67 rfl ic_1 ?_
      exact g_iret C hr hlk d_M_worth_68 (fst_of hF) (congrArg (WM a cs) (snd_of hF))
    · replace hF := ite_t hF c1
      refine g_aload_n (pc1 := 26) C d_M_worth_25 rfl rfl 0 rfl ?_
      obtain ⟨⟨r7, m7⟩, hm7, hF⟩ := bnd_some hF
      refine g_callVI (pc1 := 29) (ws1 := WM a cs m7) (As := []) (rest := []) (b := a 0) C hK 0 (c_M_no l D cs a (stI μ 0 0 (0 : Int32))  r7 m7 hm7) s_M_no kw_189 0 rfl rfl rfl ⟨Nat.le_of_ble_eq_true rfl, Nat.le_of_ble_eq_true rfl⟩ ⟨rfl, rfl⟩ d_M_worth_26 rfl rfl (Nat.le_of_ble_eq_true rfl) ?_
      exact g_iret C hr hlk d_M_worth_29 (fst_of hF) (congrArg (WM a cs) (snd_of hF))
  · replace hF := ite_f hF c1
    refine g_aload_n (pc1 := 14) C d_M_worth_13 rfl rfl 0 rfl ?_
    obtain ⟨⟨r8, m8⟩, hm8, hF⟩ := bnd_some hF
    refine g_callVI (pc1 := 17) (ws1 := WM a cs m8) (As := []) (rest := []) (b := a 0) C hK 0 (c_M_bad l D cs a (stI μ 0 0 (0 : Int32))  r8 m8 hm8) s_M_bad kw_182 0 rfl rfl rfl ⟨Nat.le_of_ble_eq_true rfl, Nat.le_of_ble_eq_true rfl⟩ ⟨rfl, rfl⟩ d_M_worth_14 rfl rfl (Nat.le_of_ble_eq_true rfl) ?_
    exact g_iret C hr hlk d_M_worth_17 (fst_of hF) (congrArg (WM a cs) (snd_of hF))
-- TentPegsModel.part(I)J
set_option maxHeartbeats 4000000 in
set_option maxRecDepth 100000 in
theorem c_M_part (l : Launch) (D : va_G) (cs : Nat → ClassId) (a : Nat → Nat) (μ : Mem) (x1 : Int32) (r : Int64) (μ1 : Mem) (hF : F_M_part μ x1 = some (r, μ1)) : MetL l y_M_part b_M_part 2 (some .long) { frames := 1, cells := 0, slots := 0, locals := 22 } D cs (AM a) (WM a cs μ) [.ref (a 0), .int x1] r (WM a cs μ1) := by
  refine met_of rfl (by decide +kernel) (Nat.le_of_ble_eq_true rfl) (fun p e s m below meth c C hK hr hlk => ?_)
  unfold F_M_part at hF
  show G p l e { frames := 1, cells := 0, slots := 0, locals := 22 } s m _ below meth c _ D (AM a) 2 (WM a cs μ) 0 [(0, .ref (a 0)), (1, .int x1)] []
  refine g_aload_n (pc1 := 1) C d_M_part_0 rfl rfl 0 rfl ?_
  refine g_iconst (pc1 := 2) (v := (0 : Int32)) C d_M_part_1 rfl ic_0 ?_
  refine put_WM_0_thrown (pc1 := 5) C hK kw_178 d_M_part_2 rfl ?_
  refine g_iload_n (pc1 := 6) C d_M_part_5 rfl rfl 1 rfl ?_
  refine g_if_ne (pc1 := 9) C 16 d_M_part_6 rfl (by decide) (fun c1 => ?_) (fun c1 => ?_)
  · replace hF := ite_f hF c1
    refine g_iload_n (pc1 := 17) C d_M_part_16 rfl rfl 1 rfl ?_
    refine g_iconst (pc1 := 18) (v := (1 : Int32)) C d_M_part_17 rfl ic_1 ?_
    refine g_icmp_ne (pc1 := 21) C 28 d_M_part_18 rfl (by decide) (fun c1 => ?_) (fun c1 => ?_)
    · replace hF := ite_f hF c1
      refine g_aload_n (pc1 := 29) C d_M_part_28 rfl rfl 0 rfl ?_
      refine g_iconst (pc1 := 30) (v := (0 : Int32)) C d_M_part_29 rfl ic_0 ?_
      refine g_ldc (pc1 := 32) (v := (-100000 : Int32)) C d_M_part_30 rfl kw_249 ?_
      obtain ⟨⟨r1, m1⟩, hm1, hF⟩ := bnd_some hF
      refine g_callVI (pc1 := 35) (ws1 := WM a cs m1) (As := [.int (0 : Int32), .int (-100000 : Int32)]) (rest := []) (b := a 0) C hK 2 (c_M_refuse l D cs a (stI μ 0 0 (0 : Int32)) (0 : Int32) (-100000 : Int32) r1 m1 hm1) s_M_refuse kw_171 0 rfl rfl rfl ⟨Nat.le_of_ble_eq_true rfl, Nat.le_of_ble_eq_true rfl⟩ ⟨rfl, rfl⟩ d_M_part_32 rfl rfl (Nat.le_of_ble_eq_true rfl) ?_
      refine g_i2l (pc1 := 36) C d_M_part_35 rfl ?_
      exact g_lret C hr hlk d_M_part_36 (fst_of hF) (congrArg (WM a cs) (snd_of hF))
    · replace hF := ite_t hF c1
      refine g_aload_n (pc1 := 22) C d_M_part_21 rfl rfl 0 rfl ?_
      refine get_WM_0_below (pc1 := 25) C hK (v := (μ.2 18)) rfl kw_245 d_M_part_22 rfl ?_
      refine g_goto C 36 d_M_part_25 (by decide) ?_
      exact g_lret C hr hlk d_M_part_36 (fst_of hF) (congrArg (WM a cs) (snd_of hF))
  · replace hF := ite_t hF c1
    refine g_aload_n (pc1 := 10) C d_M_part_9 rfl rfl 0 rfl ?_
    refine get_WM_0_above (pc1 := 13) C hK (v := (μ.2 17)) rfl kw_244 d_M_part_10 rfl ?_
    refine g_goto C 36 d_M_part_13 (by decide) ?_
    exact g_lret C hr hlk d_M_part_36 (fst_of hF) (congrArg (WM a cs) (snd_of hF))
-- TentPegsModel.isBorne(IIII)Z
set_option maxHeartbeats 4000000 in
set_option maxRecDepth 100000 in
theorem p_M_isBorne_29 {p : Program} {l : Launch} {e : Env} {s : State} {m : MethodId} {args : Array Value} {below : List Frame} {meth : Method} {c : Code} {D : va_G} {cs : Nat → ClassId} {a : Nat → Nat} {μ : Mem} {r : Int32} (C : Cx p s m args c b_M_isBorne 7 "TentPegsModel") (hK : va_K D classes (tys cs) s) (hr : meth.sig.returnType = (some .boolean)) (hlk : meth.locks = false)  (x1 : Int32) (x3 : Int32) (x4 : Int32) (x5 : Int32) (s0 : Int32) (hF : F_M_isBorne_29  μ x1 x3 x4 x5 s0 = some r) : G p l e { frames := 4, cells := 0, slots := 0, locals := 97 } s m args below meth c (MQ below (Qi (AM a) D (WM a cs μ) r) args s 0 0 (AM a)) D (AM a) 7 (WM a cs μ) 29 [(0, .ref (a 0)), (1, .int x1), (3, .int x3), (4, .int x4), (5, .int x5)] [.int s0] := by
  unfold F_M_isBorne_29 at hF
  refine g_istore (pc1 := 31) (L1 := [(6, .int s0), (0, .ref (a 0)), (1, .int x1), (3, .int x3), (4, .int x4), (5, .int x5)]) C d_M_isBorne_29 rfl (by decide) rfl ?_
  refine g_iload (pc1 := 33) C d_M_isBorne_31 rfl 0 rfl ?_
  refine g_if_eq (pc1 := 36) C 60 d_M_isBorne_33 rfl (by decide) (fun c1 => ?_) (fun c1 => ?_)
  · replace hF := ite_t hF c1
    refine g_iconst (pc1 := 61) (v := (1 : Int32)) C d_M_isBorne_60 rfl ic_1 ?_
    refine g_goto C 65 d_M_isBorne_61 (by decide) ?_
    exact g_zret C hr hlk rfl d_M_isBorne_65 (Option.some.inj hF) rfl
  · replace hF := ite_f hF c1
    refine g_iload (pc1 := 38) C d_M_isBorne_36 rfl 5 rfl ?_
    refine g_iconst (pc1 := 39) (v := (1 : Int32)) C d_M_isBorne_38 rfl ic_1 ?_
    refine g_icmp_le (pc1 := 42) C 64 d_M_isBorne_39 rfl (by decide) (fun c1 => ?_) (fun c1 => ?_)
    · replace hF := ite_t hF c1
      refine g_iconst (pc1 := 65) (v := (0 : Int32)) C d_M_isBorne_64 rfl ic_0 ?_
      exact g_zret C hr hlk rfl d_M_isBorne_65 (Option.some.inj hF) rfl
    · replace hF := ite_f hF c1
      refine g_aload_n (pc1 := 43) C d_M_isBorne_42 rfl rfl 1 rfl ?_
      refine g_iload_n (pc1 := 44) C d_M_isBorne_43 rfl rfl 2 rfl ?_
      refine g_iload_n (pc1 := 45) C d_M_isBorne_44 rfl rfl 3 rfl ?_
      refine g_iload (pc1 := 47) C d_M_isBorne_45 rfl 4 rfl ?_
      refine g_iconst (pc1 := 48) (v := (0 : Int32)) C d_M_isBorne_47 rfl ic_0 ?_
      refine g_aload_n (pc1 := 49) C d_M_isBorne_48 rfl rfl 1 rfl ?_
      refine get_WM_0_field (pc1 := 52) C hK kw_172 d_M_isBorne_49 rfl ?_
      refine g_iconst (pc1 := 53) (v := (3 : Int32)) C d_M_isBorne_52 rfl ic_3 ?_
      have hg := gd_some hF
      replace hF := hg.2
      refine g_iald (pc1 := 54) C hK 2 (f := (μ.1 2)) rfl hg.1 d_M_isBorne_53 rfl ?_
      obtain ⟨r1, hr1, hF⟩ := bnd_some hF
      refine g_callVI (pc1 := 57) (ws1 := WM a cs μ) (As := [.int x1, .int x3, .int x4, .int (0 : Int32), .int ((μ.1 2) (3 : Int32).toNatClampNeg)]) (rest := []) (b := a 0) C hK 5 (c_M_takesNone l D cs a μ x1 x3 x4 (0 : Int32) ((μ.1 2) (3 : Int32).toNatClampNeg) r1 hr1) s_M_takesNone kw_227 0 rfl rfl rfl ⟨Nat.le_of_ble_eq_true rfl, Nat.le_of_ble_eq_true rfl⟩ ⟨rfl, rfl⟩ d_M_isBorne_54 rfl rfl (Nat.le_of_ble_eq_true rfl) ?_
      refine g_if_eq (pc1 := 60) C 64 d_M_isBorne_57 rfl (by decide) (fun c1 => ?_) (fun c1 => ?_)
      · replace hF := ite_t hF c1
        refine g_iconst (pc1 := 65) (v := (0 : Int32)) C d_M_isBorne_64 rfl ic_0 ?_
        exact g_zret C hr hlk rfl d_M_isBorne_65 (Option.some.inj hF) rfl
      · replace hF := ite_f hF c1
        refine g_iconst (pc1 := 61) (v := (1 : Int32)) C d_M_isBorne_60 rfl ic_1 ?_
        refine g_goto C 65 d_M_isBorne_61 (by decide) ?_
        exact g_zret C hr hlk rfl d_M_isBorne_65 (Option.some.inj hF) rfl
set_option maxHeartbeats 4000000 in
set_option maxRecDepth 100000 in
theorem p_M_isBorne_24 {p : Program} {l : Launch} {e : Env} {s : State} {m : MethodId} {args : Array Value} {below : List Frame} {meth : Method} {c : Code} {D : va_G} {cs : Nat → ClassId} {a : Nat → Nat} {μ : Mem} {r : Int32} (C : Cx p s m args c b_M_isBorne 7 "TentPegsModel") (hK : va_K D classes (tys cs) s) (hr : meth.sig.returnType = (some .boolean)) (hlk : meth.locks = false)  (x1 : Int32) (x3 : Int32) (x4 : Int32) (x5 : Int32) (hF : F_M_isBorne_24  μ x1 x3 x4 x5 = some r) : G p l e { frames := 4, cells := 0, slots := 0, locals := 97 } s m args below meth c (MQ below (Qi (AM a) D (WM a cs μ) r) args s 0 0 (AM a)) D (AM a) 7 (WM a cs μ) 24 [(0, .ref (a 0)), (1, .int x1), (3, .int x3), (4, .int x4), (5, .int x5)] [] := by
  unfold F_M_isBorne_24 at hF
  refine g_iconst (pc1 := 25) (v := (1 : Int32)) C d_M_isBorne_24 rfl ic_1 ?_
  refine g_goto C 29 d_M_isBorne_25 (by decide) ?_
  exact g_sub [0, 1, 2, 3, 4] rfl (p_M_isBorne_29 C hK hr hlk  x1 x3 x4 x5 (1 : Int32) hF)
set_option maxHeartbeats 4000000 in
set_option maxRecDepth 100000 in
theorem c_M_isBorne (l : Launch) (D : va_G) (cs : Nat → ClassId) (a : Nat → Nat) (μ : Mem) (x1 : Int32) (x2 : Int32) (x3 : Int32) (x4 : Int32) (r : Int32) (hF : F_M_isBorne μ x1 x2 x3 x4 = some r) : MetI l y_M_isBorne b_M_isBorne 7 (some .boolean) { frames := 4, cells := 0, slots := 0, locals := 97 } D cs (AM a) (WM a cs μ) [.ref (a 0), .int x1, .int x2, .int x3, .int x4] r (WM a cs μ) := by
  refine met_of rfl (by decide +kernel) (Nat.le_of_ble_eq_true rfl) (fun p e s m below meth c C hK hr hlk => ?_)
  unfold F_M_isBorne at hF
  show G p l e { frames := 4, cells := 0, slots := 0, locals := 97 } s m _ below meth c _ D (AM a) 7 (WM a cs μ) 0 [(0, .ref (a 0)), (1, .int x1), (2, .int x2), (3, .int x3), (4, .int x4)] []
  refine g_iload_n (pc1 := 1) C d_M_isBorne_0 rfl rfl 1 rfl ?_
  obtain ⟨r1, hr1, hF⟩ := bnd_some hF
  refine g_callSI (pc1 := 4) (As := [.int x1]) (rest := []) C 1 (c_M_bits l x1 r1 hr1) s_M_bits kw_177 rfl ⟨Nat.le_of_ble_eq_true rfl, Nat.le_of_ble_eq_true rfl⟩ ⟨rfl, rfl⟩ d_M_isBorne_1 rfl rfl (Nat.le_of_ble_eq_true rfl) ?_
  refine g_istore (pc1 := 6) (L1 := [(5, .int r1), (0, .ref (a 0)), (1, .int x1), (2, .int x2), (3, .int x3), (4, .int x4)]) C d_M_isBorne_4 rfl (by decide) rfl ?_
  refine g_iload (pc1 := 8) C d_M_isBorne_6 rfl 0 rfl ?_
  refine g_iload_n (pc1 := 9) C d_M_isBorne_8 rfl rfl 3 rfl ?_
  by_cases h0 : x2 = 0
  · exact none_no (ite_t hF h0)
  replace hF := ite_f hF h0
  refine g_irem (pc1 := 10) C d_M_isBorne_9 rfl h0 ?_
  refine g_if_eq (pc1 := 13) C 24 d_M_isBorne_10 rfl (by decide) (fun c1 => ?_) (fun c1 => ?_)
  · replace hF := ite_t hF c1
    exact g_sub [1, 2, 4, 5, 0] rfl (p_M_isBorne_24 C hK hr hlk  x1 x3 x4 r1 hF)
  · replace hF := ite_f hF c1
    refine g_iload (pc1 := 15) C d_M_isBorne_13 rfl 0 rfl ?_
    refine g_aload_n (pc1 := 16) C d_M_isBorne_15 rfl rfl 1 rfl ?_
    refine get_WM_0_field (pc1 := 19) C hK kw_172 d_M_isBorne_16 rfl ?_
    refine g_iconst (pc1 := 20) (v := (0 : Int32)) C d_M_isBorne_19 rfl ic_0 ?_
    have hg := gd_some hF
    replace hF := hg.2
    refine g_iald (pc1 := 21) C hK 2 (f := (μ.1 2)) rfl hg.1 d_M_isBorne_20 rfl ?_
    refine g_icmp_ne (pc1 := 24) C 28 d_M_isBorne_21 rfl (by decide) (fun c1 => ?_) (fun c1 => ?_)
    · replace hF := ite_f hF c1
      refine g_iconst (pc1 := 29) (v := (0 : Int32)) C d_M_isBorne_28 rfl ic_0 ?_
      exact g_sub [1, 2, 4, 5, 0] rfl (p_M_isBorne_29 C hK hr hlk  x1 x3 x4 r1 (0 : Int32) hF)
    · replace hF := ite_t hF c1
      exact g_sub [1, 2, 4, 5, 0] rfl (p_M_isBorne_24 C hK hr hlk  x1 x3 x4 r1 hF)
-- TentPegsModel.setUp(IIII)I
set_option maxHeartbeats 4000000 in
set_option maxRecDepth 100000 in
theorem p_M_setUp_31 {p : Program} {l : Launch} {e : Env} {s : State} {m : MethodId} {args : Array Value} {below : List Frame} {meth : Method} {c : Code} {D : va_G} {cs : Nat → ClassId} {a : Nat → Nat} {r : Int32} {μ1 : Mem} (C : Cx p s m args c b_M_setUp 9 "TentPegsModel") (hK : va_K D classes (tys cs) s) (hr : meth.sig.returnType = (some .int)) (hlk : meth.locks = false)  (μ : Mem)  (hF : F_M_setUp_31  μ = some (r, μ1)) : G p l e { frames := 5, cells := 0, slots := 0, locals := 123 } s m args below meth c (MQ below (Qi (AM a) D (WM a cs μ1) r) args s 0 0 (AM a)) D (AM a) 9 (WM a cs μ) 31 [(0, .ref (a 0))] [] := by
  unfold F_M_setUp_31 at hF
  refine g_aload_n (pc1 := 32) C d_M_setUp_31 rfl rfl 0 rfl ?_
  obtain ⟨⟨r1, m1⟩, hm1, hF⟩ := bnd_some hF
  refine g_callVI (pc1 := 35) (ws1 := WM a cs m1) (As := []) (rest := []) (b := a 0) C hK 0 (c_M_badTen l D cs a μ  r1 m1 hm1) s_M_badTen kw_238 0 rfl rfl rfl ⟨Nat.le_of_ble_eq_true rfl, Nat.le_of_ble_eq_true rfl⟩ ⟨rfl, rfl⟩ d_M_setUp_32 rfl rfl (Nat.le_of_ble_eq_true rfl) ?_
  exact g_iret C hr hlk d_M_setUp_35 (fst_of hF) (congrArg (WM a cs) (snd_of hF))
set_option maxHeartbeats 4000000 in
set_option maxRecDepth 100000 in
theorem p_M_setUp_169 {p : Program} {l : Launch} {e : Env} {s : State} {m : MethodId} {args : Array Value} {below : List Frame} {meth : Method} {c : Code} {D : va_G} {cs : Nat → ClassId} {a : Nat → Nat} {r : Int32} {μ1 : Mem} (C : Cx p s m args c b_M_setUp 9 "TentPegsModel") (hK : va_K D classes (tys cs) s) (hr : meth.sig.returnType = (some .int)) (hlk : meth.locks = false)  (μ : Mem) (x4 : Int32) (hF : F_M_setUp_169  μ x4 = some (r, μ1)) : G p l e { frames := 5, cells := 0, slots := 0, locals := 123 } s m args below meth c (MQ below (Qi (AM a) D (WM a cs μ1) r) args s 0 0 (AM a)) D (AM a) 9 (WM a cs μ) 169 [(0, .ref (a 0)), (4, .int x4)] [] := by
  unfold F_M_setUp_169 at hF
  refine g_iload (pc1 := 171) C d_M_setUp_169 rfl 1 rfl ?_
  refine g_iconst (pc1 := 172) (v := (-1 : Int32)) C d_M_setUp_171 rfl ic_m1 ?_
  refine g_icmp_ne (pc1 := 175) C 184 d_M_setUp_172 rfl (by decide) (fun c1 => ?_) (fun c1 => ?_)
  · replace hF := ite_f hF c1
    refine g_iconst (pc1 := 185) (v := (-1 : Int32)) C d_M_setUp_184 rfl ic_m1 ?_
    exact g_iret C hr hlk d_M_setUp_185 (fst_of hF) (congrArg (WM a cs) (snd_of hF))
  · replace hF := ite_t hF c1
    refine g_aload_n (pc1 := 176) C d_M_setUp_175 rfl rfl 0 rfl ?_
    refine get_WM_0_orders (pc1 := 179) C hK kw_251 d_M_setUp_176 rfl ?_
    refine g_iconst (pc1 := 180) (v := (0 : Int32)) C d_M_setUp_179 rfl ic_0 ?_
    have hg := gd_some hF
    replace hF := hg.2
    refine g_iald (pc1 := 181) C hK 10 (f := (μ.1 10)) rfl hg.1 d_M_setUp_180 rfl ?_
    refine g_goto C 185 d_M_setUp_181 (by decide) ?_
    exact g_iret C hr hlk d_M_setUp_185 (fst_of hF) (congrArg (WM a cs) (snd_of hF))
set_option maxHeartbeats 4000000 in
set_option maxRecDepth 100000 in
theorem p_M_setUp_219 {p : Program} {l : Launch} {e : Env} {s : State} {m : MethodId} {args : Array Value} {below : List Frame} {meth : Method} {c : Code} {D : va_G} {cs : Nat → ClassId} {a : Nat → Nat} {r : Int32} {μ1 : Mem} (C : Cx p s m args c b_M_setUp 9 "TentPegsModel") (hK : va_K D classes (tys cs) s) (hr : meth.sig.returnType = (some .int)) (hlk : meth.locks = false) (K209 : Mem → Int32 → Int32 → Int32 → Int32 → Int32 → Int32 → Int32 → Option (Int32 × Mem)) (hK209 : ∀ (μ : Mem) (x1 : Int32) (x2 : Int32) (x3 : Int32) (x4 : Int32) (x6 : Int32) (x7 : Int32) (x8 : Int32), K209 μ x1 x2 x3 x4 x6 x7 x8 = some (r, μ1) → G p l e { frames := 5, cells := 0, slots := 0, locals := 123 } s m args below meth c (MQ below (Qi (AM a) D (WM a cs μ1) r) args s 0 0 (AM a)) D (AM a) 9 (WM a cs μ) 209 [(0, .ref (a 0)), (1, .int x1), (2, .int x2), (3, .int x3), (4, .int x4), (6, .int x6), (7, .int x7), (8, .int x8)] []) : ∀ (μ : Mem) (x1 : Int32) (x2 : Int32) (x3 : Int32) (x4 : Int32) (x6 : Int32) (x7 : Int32) (x8 : Int32), F_M_setUp_219 K209 μ x1 x2 x3 x4 x6 x7 x8 = some (r, μ1) → G p l e { frames := 5, cells := 0, slots := 0, locals := 123 } s m args below meth c (MQ below (Qi (AM a) D (WM a cs μ1) r) args s 0 0 (AM a)) D (AM a) 9 (WM a cs μ) 219 [(0, .ref (a 0)), (1, .int x1), (2, .int x2), (3, .int x3), (4, .int x4), (6, .int x6), (7, .int x7), (8, .int x8)] [] := by
  refine iter_ind (fun (K219 : Mem → Int32 → Int32 → Int32 → Int32 → Int32 → Int32 → Int32 → Option (Int32 × Mem)) => ∀ (μ : Mem) (x1 : Int32) (x2 : Int32) (x3 : Int32) (x4 : Int32) (x6 : Int32) (x7 : Int32) (x8 : Int32), K219 μ x1 x2 x3 x4 x6 x7 x8 = some (r, μ1) → G p l e { frames := 5, cells := 0, slots := 0, locals := 123 } s m args below meth c (MQ below (Qi (AM a) D (WM a cs μ1) r) args s 0 0 (AM a)) D (AM a) 9 (WM a cs μ) 219 [(0, .ref (a 0)), (1, .int x1), (2, .int x2), (3, .int x3), (4, .int x4), (6, .int x6), (7, .int x7), (8, .int x8)] []) ?_ ?_ NF
  · intro μ x1 x2 x3 x4 x6 x7 x8 hF
    exact none_no hF
  · intro K219 hK219 μ x1 x2 x3 x4 x6 x7 x8 hF
    unfold S_M_setUp_219 at hF
    refine g_iload (pc1 := 221) C d_M_setUp_219 rfl 5 rfl ?_
    refine g_iload (pc1 := 223) C d_M_setUp_221 rfl 6 rfl ?_
    obtain ⟨r1, hr1, hF⟩ := bnd_some hF
    refine g_callSI (pc1 := 226) (As := [.int x6, .int x7]) (rest := []) C 2 (c_M_has l x6 x7 r1 hr1) s_M_has kw_188 rfl ⟨Nat.le_of_ble_eq_true rfl, Nat.le_of_ble_eq_true rfl⟩ ⟨rfl, rfl⟩ d_M_setUp_223 rfl rfl (Nat.le_of_ble_eq_true rfl) ?_
    refine g_if_ne (pc1 := 229) C 261 d_M_setUp_226 rfl (by decide) (fun c1 => ?_) (fun c1 => ?_)
    · replace hF := ite_f hF c1
      refine g_iinc (pc1 := 264) (v := (x7 + (1 : Int32))) (L1 := [(7, .int (x7 + (1 : Int32))), (0, .ref (a 0)), (1, .int x1), (2, .int x2), (3, .int x3), (4, .int x4), (6, .int x6), (8, .int x8)]) C d_M_setUp_261 rfl 6 rfl (by rw [ic_1]) (by decide) rfl ?_
      refine g_goto C 219 d_M_setUp_264 (by decide) ?_
      exact g_sub [1, 2, 3, 4, 5, 6, 0, 7] rfl (hK219 μ x1 x2 x3 x4 x6 (x7 + (1 : Int32)) x8 hF)
    · replace hF := ite_t hF c1
      refine g_aload_n (pc1 := 230) C d_M_setUp_229 rfl rfl 0 rfl ?_
      refine g_iload (pc1 := 232) C d_M_setUp_230 rfl 5 rfl ?_
      refine g_iconst (pc1 := 233) (v := (1 : Int32)) C d_M_setUp_232 rfl ic_1 ?_
      refine g_iload (pc1 := 235) C d_M_setUp_233 rfl 6 rfl ?_
      refine g_ishl (pc1 := 236) C d_M_setUp_235 rfl ?_
      refine g_ior (pc1 := 237) C d_M_setUp_236 rfl ?_
      refine g_iload_n (pc1 := 238) C d_M_setUp_237 rfl rfl 1 rfl ?_
      refine g_iload_n (pc1 := 239) C d_M_setUp_238 rfl rfl 2 rfl ?_
      refine g_iload_n (pc1 := 240) C d_M_setUp_239 rfl rfl 3 rfl ?_
      obtain ⟨r2, hr2, hF⟩ := bnd_some hF
      refine g_callVI (pc1 := 243) (ws1 := WM a cs μ) (As := [.int (x6 ||| ((1 : Int32) <<< (x7 &&& 31))), .int x1, .int x2, .int x3]) (rest := []) (b := a 0) C hK 4 (c_M_isBorne l D cs a μ (x6 ||| ((1 : Int32) <<< (x7 &&& 31))) x1 x2 x3 r2 hr2) s_M_isBorne kw_252 0 rfl rfl rfl ⟨Nat.le_of_ble_eq_true rfl, Nat.le_of_ble_eq_true rfl⟩ ⟨rfl, rfl⟩ d_M_setUp_240 rfl rfl (Nat.le_of_ble_eq_true rfl) ?_
      refine g_if_eq (pc1 := 246) C 261 d_M_setUp_243 rfl (by decide) (fun c1 => ?_) (fun c1 => ?_)
      · replace hF := ite_t hF c1
        refine g_iinc (pc1 := 264) (v := (x7 + (1 : Int32))) (L1 := [(7, .int (x7 + (1 : Int32))), (0, .ref (a 0)), (1, .int x1), (2, .int x2), (3, .int x3), (4, .int x4), (6, .int x6), (8, .int x8)]) C d_M_setUp_261 rfl 6 rfl (by rw [ic_1]) (by decide) rfl ?_
        refine g_goto C 219 d_M_setUp_264 (by decide) ?_
        exact g_sub [1, 2, 3, 4, 5, 6, 0, 7] rfl (hK219 μ x1 x2 x3 x4 x6 (x7 + (1 : Int32)) x8 hF)
      · replace hF := ite_f hF c1
        refine g_aload_n (pc1 := 247) C d_M_setUp_246 rfl rfl 0 rfl ?_
        refine get_WM_0_orders (pc1 := 250) C hK kw_251 d_M_setUp_247 rfl ?_
        refine g_iload (pc1 := 252) C d_M_setUp_250 rfl 5 rfl ?_
        refine g_iconst (pc1 := 253) (v := (1 : Int32)) C d_M_setUp_252 rfl ic_1 ?_
        refine g_iload (pc1 := 255) C d_M_setUp_253 rfl 6 rfl ?_
        refine g_ishl (pc1 := 256) C d_M_setUp_255 rfl ?_
        refine g_ior (pc1 := 257) C d_M_setUp_256 rfl ?_
        have hg := gd_some hF
        replace hF := hg.2
        refine g_iald (pc1 := 258) C hK 10 (f := (μ.1 10)) rfl hg.1 d_M_setUp_257 rfl ?_
        refine g_if_ne (pc1 := 261) C 267 d_M_setUp_258 rfl (by decide) (fun c1 => ?_) (fun c1 => ?_)
        · replace hF := ite_f hF c1
          refine g_iload (pc1 := 269) C d_M_setUp_267 rfl 5 rfl ?_
          refine g_iconst (pc1 := 270) (v := (1 : Int32)) C d_M_setUp_269 rfl ic_1 ?_
          refine g_iload (pc1 := 272) C d_M_setUp_270 rfl 6 rfl ?_
          refine g_ishl (pc1 := 273) C d_M_setUp_272 rfl ?_
          refine g_ior (pc1 := 274) C d_M_setUp_273 rfl ?_
          refine g_istore (pc1 := 276) (L1 := [(6, .int (x6 ||| ((1 : Int32) <<< (x7 &&& 31)))), (0, .ref (a 0)), (1, .int x1), (2, .int x2), (3, .int x3), (4, .int x4), (7, .int x7), (8, .int x8)]) C d_M_setUp_274 rfl (by decide) rfl ?_
          refine g_iinc (pc1 := 279) (v := (x8 + (1 : Int32))) (L1 := [(8, .int (x8 + (1 : Int32))), (6, .int (x6 ||| ((1 : Int32) <<< (x7 &&& 31)))), (0, .ref (a 0)), (1, .int x1), (2, .int x2), (3, .int x3), (4, .int x4), (7, .int x7)]) C d_M_setUp_276 rfl 7 rfl (by rw [ic_1]) (by decide) rfl ?_
          refine g_goto C 209 d_M_setUp_279 (by decide) ?_
          exact g_sub [2, 3, 4, 5, 6, 1, 7, 0] rfl (hK209 μ x1 x2 x3 x4 (x6 ||| ((1 : Int32) <<< (x7 &&& 31))) x7 (x8 + (1 : Int32)) hF)
        · replace hF := ite_t hF c1
          refine g_iinc (pc1 := 264) (v := (x7 + (1 : Int32))) (L1 := [(7, .int (x7 + (1 : Int32))), (0, .ref (a 0)), (1, .int x1), (2, .int x2), (3, .int x3), (4, .int x4), (6, .int x6), (8, .int x8)]) C d_M_setUp_261 rfl 6 rfl (by rw [ic_1]) (by decide) rfl ?_
          refine g_goto C 219 d_M_setUp_264 (by decide) ?_
          exact g_sub [1, 2, 3, 4, 5, 6, 0, 7] rfl (hK219 μ x1 x2 x3 x4 x6 (x7 + (1 : Int32)) x8 hF)
set_option maxHeartbeats 4000000 in
set_option maxRecDepth 100000 in
theorem p_M_setUp_209 {p : Program} {l : Launch} {e : Env} {s : State} {m : MethodId} {args : Array Value} {below : List Frame} {meth : Method} {c : Code} {D : va_G} {cs : Nat → ClassId} {a : Nat → Nat} {r : Int32} {μ1 : Mem} (C : Cx p s m args c b_M_setUp 9 "TentPegsModel") (hK : va_K D classes (tys cs) s) (hr : meth.sig.returnType = (some .int)) (hlk : meth.locks = false)  : ∀ (μ : Mem) (x1 : Int32) (x2 : Int32) (x3 : Int32) (x4 : Int32) (x6 : Int32) (x7 : Int32) (x8 : Int32), F_M_setUp_209  μ x1 x2 x3 x4 x6 x7 x8 = some (r, μ1) → G p l e { frames := 5, cells := 0, slots := 0, locals := 123 } s m args below meth c (MQ below (Qi (AM a) D (WM a cs μ1) r) args s 0 0 (AM a)) D (AM a) 9 (WM a cs μ) 209 [(0, .ref (a 0)), (1, .int x1), (2, .int x2), (3, .int x3), (4, .int x4), (6, .int x6), (7, .int x7), (8, .int x8)] [] := by
  refine iter_ind (fun (K209 : Mem → Int32 → Int32 → Int32 → Int32 → Int32 → Int32 → Int32 → Option (Int32 × Mem)) => ∀ (μ : Mem) (x1 : Int32) (x2 : Int32) (x3 : Int32) (x4 : Int32) (x6 : Int32) (x7 : Int32) (x8 : Int32), K209 μ x1 x2 x3 x4 x6 x7 x8 = some (r, μ1) → G p l e { frames := 5, cells := 0, slots := 0, locals := 123 } s m args below meth c (MQ below (Qi (AM a) D (WM a cs μ1) r) args s 0 0 (AM a)) D (AM a) 9 (WM a cs μ) 209 [(0, .ref (a 0)), (1, .int x1), (2, .int x2), (3, .int x3), (4, .int x4), (6, .int x6), (7, .int x7), (8, .int x8)] []) ?_ ?_ NF
  · intro μ x1 x2 x3 x4 x6 x7 x8 hF
    exact none_no hF
  · intro K209 hK209 μ x1 x2 x3 x4 x6 x7 x8 hF
    unfold S_M_setUp_209 at hF
    refine g_iload (pc1 := 211) C d_M_setUp_209 rfl 7 rfl ?_
    refine g_iload (pc1 := 213) C d_M_setUp_211 rfl 4 rfl ?_
    refine g_icmp_gt (pc1 := 216) C 282 d_M_setUp_213 rfl (by decide) (fun c1 => ?_) (fun c1 => ?_)
    · replace hF := ite_t hF c1
      refine g_iload (pc1 := 284) C d_M_setUp_282 rfl 6 rfl ?_
      exact g_iret C hr hlk d_M_setUp_284 (fst_of hF) (congrArg (WM a cs) (snd_of hF))
    · replace hF := ite_f hF c1
      refine g_iconst (pc1 := 217) (v := (0 : Int32)) C d_M_setUp_216 rfl ic_0 ?_
      refine g_istore (pc1 := 219) (L1 := [(7, .int (0 : Int32)), (0, .ref (a 0)), (1, .int x1), (2, .int x2), (3, .int x3), (4, .int x4), (6, .int x6), (8, .int x8)]) C d_M_setUp_217 rfl (by decide) rfl ?_
      exact g_sub [1, 2, 3, 4, 5, 6, 0, 7] rfl (p_M_setUp_219 C hK hr hlk K209 hK209 μ x1 x2 x3 x4 x6 (0 : Int32) x8 hF)
set_option maxHeartbeats 4000000 in
set_option maxRecDepth 100000 in
theorem p_M_setUp_78 {p : Program} {l : Launch} {e : Env} {s : State} {m : MethodId} {args : Array Value} {below : List Frame} {meth : Method} {c : Code} {D : va_G} {cs : Nat → ClassId} {a : Nat → Nat} {r : Int32} {μ1 : Mem} (C : Cx p s m args c b_M_setUp 9 "TentPegsModel") (hK : va_K D classes (tys cs) s) (hr : meth.sig.returnType = (some .int)) (hlk : meth.locks = false) (K62 : Mem → Int32 → Int32 → Int32 → Int32 → Int32 → Option (Int32 × Mem)) (hK62 : ∀ (μ : Mem) (x1 : Int32) (x2 : Int32) (x3 : Int32) (x4 : Int32) (x6 : Int32), K62 μ x1 x2 x3 x4 x6 = some (r, μ1) → G p l e { frames := 5, cells := 0, slots := 0, locals := 123 } s m args below meth c (MQ below (Qi (AM a) D (WM a cs μ1) r) args s 0 0 (AM a)) D (AM a) 9 (WM a cs μ) 62 [(0, .ref (a 0)), (1, .int x1), (2, .int x2), (3, .int x3), (4, .int x4), (6, .int x6)] []) : ∀ (μ : Mem) (x1 : Int32) (x2 : Int32) (x3 : Int32) (x4 : Int32) (x6 : Int32) (x7 : Int32), F_M_setUp_78 K62 μ x1 x2 x3 x4 x6 x7 = some (r, μ1) → G p l e { frames := 5, cells := 0, slots := 0, locals := 123 } s m args below meth c (MQ below (Qi (AM a) D (WM a cs μ1) r) args s 0 0 (AM a)) D (AM a) 9 (WM a cs μ) 78 [(0, .ref (a 0)), (1, .int x1), (2, .int x2), (3, .int x3), (4, .int x4), (6, .int x6), (7, .int x7)] [] := by
  refine iter_ind (fun (K78 : Mem → Int32 → Int32 → Int32 → Int32 → Int32 → Int32 → Option (Int32 × Mem)) => ∀ (μ : Mem) (x1 : Int32) (x2 : Int32) (x3 : Int32) (x4 : Int32) (x6 : Int32) (x7 : Int32), K78 μ x1 x2 x3 x4 x6 x7 = some (r, μ1) → G p l e { frames := 5, cells := 0, slots := 0, locals := 123 } s m args below meth c (MQ below (Qi (AM a) D (WM a cs μ1) r) args s 0 0 (AM a)) D (AM a) 9 (WM a cs μ) 78 [(0, .ref (a 0)), (1, .int x1), (2, .int x2), (3, .int x3), (4, .int x4), (6, .int x6), (7, .int x7)] []) ?_ ?_ NF
  · intro μ x1 x2 x3 x4 x6 x7 hF
    exact none_no hF
  · intro K78 hK78 μ x1 x2 x3 x4 x6 x7 hF
    unfold S_M_setUp_78 at hF
    refine g_iload (pc1 := 80) C d_M_setUp_78 rfl 6 rfl ?_
    refine g_aload_n (pc1 := 81) C d_M_setUp_80 rfl rfl 0 rfl ?_
    refine get_WM_0_field (pc1 := 84) C hK kw_172 d_M_setUp_81 rfl ?_
    refine g_iconst (pc1 := 85) (v := (0 : Int32)) C d_M_setUp_84 rfl ic_0 ?_
    have hg := gd_some hF
    replace hF := hg.2
    refine g_iald (pc1 := 86) C hK 2 (f := (μ.1 2)) rfl hg.1 d_M_setUp_85 rfl ?_
    refine g_icmp_ge (pc1 := 89) C 148 d_M_setUp_86 rfl (by decide) (fun c1 => ?_) (fun c1 => ?_)
    · replace hF := ite_t hF c1
      refine g_iinc (pc1 := 151) (v := (x6 + (-1 : Int32))) (L1 := [(6, .int (x6 + (-1 : Int32))), (0, .ref (a 0)), (1, .int x1), (2, .int x2), (3, .int x3), (4, .int x4), (7, .int x7)]) C d_M_setUp_148 rfl 5 rfl (by rw [ic_m1]) (by decide) rfl ?_
      refine g_goto C 62 d_M_setUp_151 (by decide) ?_
      exact g_sub [1, 2, 3, 4, 5, 0] rfl (hK62 μ x1 x2 x3 x4 (x6 + (-1 : Int32)) hF)
    · replace hF := ite_f hF c1
      refine g_aload_n (pc1 := 90) C d_M_setUp_89 rfl rfl 0 rfl ?_
      refine get_WM_0_orders (pc1 := 93) C hK kw_251 d_M_setUp_90 rfl ?_
      refine g_iload (pc1 := 95) C d_M_setUp_93 rfl 5 rfl ?_
      refine g_dup2 (pc1 := 96) C d_M_setUp_95 rfl rfl rfl ?_
      have hg := gd_some hF
      replace hF := hg.2
      refine g_iald (pc1 := 97) C hK 10 (f := (μ.1 10)) rfl hg.1 d_M_setUp_96 rfl ?_
      refine g_iload (pc1 := 99) C d_M_setUp_97 rfl 5 rfl ?_
      refine g_iload (pc1 := 101) C d_M_setUp_99 rfl 6 rfl ?_
      obtain ⟨r1, hr1, hF⟩ := bnd_some hF
      refine g_callSI (pc1 := 104) (As := [.int x6, .int x7]) (rest := [.int ((μ.1 10) x6.toNatClampNeg), .int x6, .ref (a 10)]) C 2 (c_M_has l x6 x7 r1 hr1) s_M_has kw_188 rfl ⟨Nat.le_of_ble_eq_true rfl, Nat.le_of_ble_eq_true rfl⟩ ⟨rfl, rfl⟩ d_M_setUp_101 rfl rfl (Nat.le_of_ble_eq_true rfl) ?_
      refine g_if_ne (pc1 := 107) C 139 d_M_setUp_104 rfl (by decide) (fun c1 => ?_) (fun c1 => ?_)
      · replace hF := ite_f hF c1
        refine g_iconst (pc1 := 140) (v := (0 : Int32)) C d_M_setUp_139 rfl ic_0 ?_
        refine g_iadd (pc1 := 141) C d_M_setUp_140 rfl ?_
        have hg := gd_some hF
        replace hF := hg.2
        refine g_iast (pc1 := 142) (ws1 := WM a cs (stI μ 10 x6.toNatClampNeg (((μ.1 10) x6.toNatClampNeg) + (0 : Int32)))) C hK 10 (f := (μ.1 10)) rfl hg.1 (set_WM_10 _ _ _ _ _) d_M_setUp_141 rfl ?_
        refine g_iinc (pc1 := 145) (v := (x7 + (1 : Int32))) (L1 := [(7, .int (x7 + (1 : Int32))), (0, .ref (a 0)), (1, .int x1), (2, .int x2), (3, .int x3), (4, .int x4), (6, .int x6)]) C d_M_setUp_142 rfl 6 rfl (by rw [ic_1]) (by decide) rfl ?_
        refine g_goto C 78 d_M_setUp_145 (by decide) ?_
        exact g_sub [1, 2, 3, 4, 5, 6, 0] rfl (hK78 (stI μ 10 x6.toNatClampNeg (((μ.1 10) x6.toNatClampNeg) + (0 : Int32))) x1 x2 x3 x4 x6 (x7 + (1 : Int32)) hF)
      · replace hF := ite_t hF c1
        refine g_aload_n (pc1 := 108) C d_M_setUp_107 rfl rfl 0 rfl ?_
        refine g_iload (pc1 := 110) C d_M_setUp_108 rfl 5 rfl ?_
        refine g_iconst (pc1 := 111) (v := (1 : Int32)) C d_M_setUp_110 rfl ic_1 ?_
        refine g_iload (pc1 := 113) C d_M_setUp_111 rfl 6 rfl ?_
        refine g_ishl (pc1 := 114) C d_M_setUp_113 rfl ?_
        refine g_ior (pc1 := 115) C d_M_setUp_114 rfl ?_
        refine g_iload_n (pc1 := 116) C d_M_setUp_115 rfl rfl 1 rfl ?_
        refine g_iload_n (pc1 := 117) C d_M_setUp_116 rfl rfl 2 rfl ?_
        refine g_iload_n (pc1 := 118) C d_M_setUp_117 rfl rfl 3 rfl ?_
        obtain ⟨r2, hr2, hF⟩ := bnd_some hF
        refine g_callVI (pc1 := 121) (ws1 := WM a cs μ) (As := [.int (x6 ||| ((1 : Int32) <<< (x7 &&& 31))), .int x1, .int x2, .int x3]) (rest := [.int ((μ.1 10) x6.toNatClampNeg), .int x6, .ref (a 10)]) (b := a 0) C hK 4 (c_M_isBorne l D cs a μ (x6 ||| ((1 : Int32) <<< (x7 &&& 31))) x1 x2 x3 r2 hr2) s_M_isBorne kw_252 0 rfl rfl rfl ⟨Nat.le_of_ble_eq_true rfl, Nat.le_of_ble_eq_true rfl⟩ ⟨rfl, rfl⟩ d_M_setUp_118 rfl rfl (Nat.le_of_ble_eq_true rfl) ?_
        refine g_if_eq (pc1 := 124) C 139 d_M_setUp_121 rfl (by decide) (fun c1 => ?_) (fun c1 => ?_)
        · replace hF := ite_t hF c1
          refine g_iconst (pc1 := 140) (v := (0 : Int32)) C d_M_setUp_139 rfl ic_0 ?_
          refine g_iadd (pc1 := 141) C d_M_setUp_140 rfl ?_
          have hg := gd_some hF
          replace hF := hg.2
          refine g_iast (pc1 := 142) (ws1 := WM a cs (stI μ 10 x6.toNatClampNeg (((μ.1 10) x6.toNatClampNeg) + (0 : Int32)))) C hK 10 (f := (μ.1 10)) rfl hg.1 (set_WM_10 _ _ _ _ _) d_M_setUp_141 rfl ?_
          refine g_iinc (pc1 := 145) (v := (x7 + (1 : Int32))) (L1 := [(7, .int (x7 + (1 : Int32))), (0, .ref (a 0)), (1, .int x1), (2, .int x2), (3, .int x3), (4, .int x4), (6, .int x6)]) C d_M_setUp_142 rfl 6 rfl (by rw [ic_1]) (by decide) rfl ?_
          refine g_goto C 78 d_M_setUp_145 (by decide) ?_
          exact g_sub [1, 2, 3, 4, 5, 6, 0] rfl (hK78 (stI μ 10 x6.toNatClampNeg (((μ.1 10) x6.toNatClampNeg) + (0 : Int32))) x1 x2 x3 x4 x6 (x7 + (1 : Int32)) hF)
        · replace hF := ite_f hF c1
          refine g_aload_n (pc1 := 125) C d_M_setUp_124 rfl rfl 0 rfl ?_
          refine get_WM_0_orders (pc1 := 128) C hK kw_251 d_M_setUp_125 rfl ?_
          refine g_iload (pc1 := 130) C d_M_setUp_128 rfl 5 rfl ?_
          refine g_iconst (pc1 := 131) (v := (1 : Int32)) C d_M_setUp_130 rfl ic_1 ?_
          refine g_iload (pc1 := 133) C d_M_setUp_131 rfl 6 rfl ?_
          refine g_ishl (pc1 := 134) C d_M_setUp_133 rfl ?_
          refine g_ior (pc1 := 135) C d_M_setUp_134 rfl ?_
          have hg := gd_some hF
          replace hF := hg.2
          refine g_iald (pc1 := 136) C hK 10 (f := (μ.1 10)) rfl hg.1 d_M_setUp_135 rfl ?_
          refine g_goto C 140 d_M_setUp_136 (by decide) ?_
          refine g_iadd (pc1 := 141) C d_M_setUp_140 rfl ?_
          have hg := gd_some hF
          replace hF := hg.2
          refine g_iast (pc1 := 142) (ws1 := WM a cs (stI μ 10 x6.toNatClampNeg (((μ.1 10) x6.toNatClampNeg) + ((μ.1 10) (x6 ||| ((1 : Int32) <<< (x7 &&& 31))).toNatClampNeg)))) C hK 10 (f := (μ.1 10)) rfl hg.1 (set_WM_10 _ _ _ _ _) d_M_setUp_141 rfl ?_
          refine g_iinc (pc1 := 145) (v := (x7 + (1 : Int32))) (L1 := [(7, .int (x7 + (1 : Int32))), (0, .ref (a 0)), (1, .int x1), (2, .int x2), (3, .int x3), (4, .int x4), (6, .int x6)]) C d_M_setUp_142 rfl 6 rfl (by rw [ic_1]) (by decide) rfl ?_
          refine g_goto C 78 d_M_setUp_145 (by decide) ?_
          exact g_sub [1, 2, 3, 4, 5, 6, 0] rfl (hK78 (stI μ 10 x6.toNatClampNeg (((μ.1 10) x6.toNatClampNeg) + ((μ.1 10) (x6 ||| ((1 : Int32) <<< (x7 &&& 31))).toNatClampNeg))) x1 x2 x3 x4 x6 (x7 + (1 : Int32)) hF)
set_option maxHeartbeats 4000000 in
set_option maxRecDepth 100000 in
theorem p_M_setUp_62 {p : Program} {l : Launch} {e : Env} {s : State} {m : MethodId} {args : Array Value} {below : List Frame} {meth : Method} {c : Code} {D : va_G} {cs : Nat → ClassId} {a : Nat → Nat} {r : Int32} {μ1 : Mem} (C : Cx p s m args c b_M_setUp 9 "TentPegsModel") (hK : va_K D classes (tys cs) s) (hr : meth.sig.returnType = (some .int)) (hlk : meth.locks = false)  : ∀ (μ : Mem) (x1 : Int32) (x2 : Int32) (x3 : Int32) (x4 : Int32) (x6 : Int32), F_M_setUp_62  μ x1 x2 x3 x4 x6 = some (r, μ1) → G p l e { frames := 5, cells := 0, slots := 0, locals := 123 } s m args below meth c (MQ below (Qi (AM a) D (WM a cs μ1) r) args s 0 0 (AM a)) D (AM a) 9 (WM a cs μ) 62 [(0, .ref (a 0)), (1, .int x1), (2, .int x2), (3, .int x3), (4, .int x4), (6, .int x6)] [] := by
  refine iter_ind (fun (K62 : Mem → Int32 → Int32 → Int32 → Int32 → Int32 → Option (Int32 × Mem)) => ∀ (μ : Mem) (x1 : Int32) (x2 : Int32) (x3 : Int32) (x4 : Int32) (x6 : Int32), K62 μ x1 x2 x3 x4 x6 = some (r, μ1) → G p l e { frames := 5, cells := 0, slots := 0, locals := 123 } s m args below meth c (MQ below (Qi (AM a) D (WM a cs μ1) r) args s 0 0 (AM a)) D (AM a) 9 (WM a cs μ) 62 [(0, .ref (a 0)), (1, .int x1), (2, .int x2), (3, .int x3), (4, .int x4), (6, .int x6)] []) ?_ ?_ NF
  · intro μ x1 x2 x3 x4 x6 hF
    exact none_no hF
  · intro K62 hK62 μ x1 x2 x3 x4 x6 hF
    unfold S_M_setUp_62 at hF
    refine g_iload (pc1 := 64) C d_M_setUp_62 rfl 5 rfl ?_
    refine g_if_lt (pc1 := 67) C 154 d_M_setUp_64 rfl (by decide) (fun c1 => ?_) (fun c1 => ?_)
    · replace hF := ite_t hF c1
      refine g_iload (pc1 := 156) C d_M_setUp_154 rfl 4 rfl ?_
      refine g_iconst (pc1 := 157) (v := (-1 : Int32)) C d_M_setUp_156 rfl ic_m1 ?_
      refine g_icmp_eq (pc1 := 160) C 169 d_M_setUp_157 rfl (by decide) (fun c1 => ?_) (fun c1 => ?_)
      · replace hF := ite_t hF c1
        exact g_sub [0, 4] rfl (p_M_setUp_169 C hK hr hlk  μ x4 hF)
      · replace hF := ite_f hF c1
        refine g_aload_n (pc1 := 161) C d_M_setUp_160 rfl rfl 0 rfl ?_
        refine get_WM_0_orders (pc1 := 164) C hK kw_251 d_M_setUp_161 rfl ?_
        refine g_iconst (pc1 := 165) (v := (0 : Int32)) C d_M_setUp_164 rfl ic_0 ?_
        have hg := gd_some hF
        replace hF := hg.2
        refine g_iald (pc1 := 166) C hK 10 (f := (μ.1 10)) rfl hg.1 d_M_setUp_165 rfl ?_
        refine g_if_ne (pc1 := 169) C 186 d_M_setUp_166 rfl (by decide) (fun c1 => ?_) (fun c1 => ?_)
        · replace hF := ite_f hF c1
          refine g_iload (pc1 := 188) C d_M_setUp_186 rfl 4 rfl ?_
          refine g_aload_n (pc1 := 189) C d_M_setUp_188 rfl rfl 0 rfl ?_
          refine get_WM_0_field (pc1 := 192) C hK kw_172 d_M_setUp_189 rfl ?_
          refine g_iconst (pc1 := 193) (v := (0 : Int32)) C d_M_setUp_192 rfl ic_0 ?_
          have hg := gd_some hF
          replace hF := hg.2
          refine g_iald (pc1 := 194) C hK 2 (f := (μ.1 2)) rfl hg.1 d_M_setUp_193 rfl ?_
          refine g_icmp_lt (pc1 := 197) C 200 d_M_setUp_194 rfl (by decide) (fun c1 => ?_) (fun c1 => ?_)
          · replace hF := ite_t hF c1
            refine g_iconst (pc1 := 201) (v := (0 : Int32)) C d_M_setUp_200 rfl ic_0 ?_
            refine g_istore (pc1 := 203) (L1 := [(6, .int (0 : Int32)), (0, .ref (a 0)), (1, .int x1), (2, .int x2), (3, .int x3), (4, .int x4)]) C d_M_setUp_201 rfl (by decide) rfl ?_
            refine g_iconst (pc1 := 204) (v := (-1 : Int32)) C d_M_setUp_203 rfl ic_m1 ?_
            refine g_istore (pc1 := 206) (L1 := [(7, .int (-1 : Int32)), (6, .int (0 : Int32)), (0, .ref (a 0)), (1, .int x1), (2, .int x2), (3, .int x3), (4, .int x4)]) C d_M_setUp_204 rfl (by decide) rfl ?_
            refine g_iconst (pc1 := 207) (v := (0 : Int32)) C d_M_setUp_206 rfl ic_0 ?_
            refine g_istore (pc1 := 209) (L1 := [(8, .int (0 : Int32)), (7, .int (-1 : Int32)), (6, .int (0 : Int32)), (0, .ref (a 0)), (1, .int x1), (2, .int x2), (3, .int x3), (4, .int x4)]) C d_M_setUp_207 rfl (by decide) rfl ?_
            exact g_sub [3, 4, 5, 6, 7, 2, 1, 0] rfl (p_M_setUp_209 C hK hr hlk  μ x1 x2 x3 x4 (0 : Int32) (-1 : Int32) (0 : Int32) hF)
          · replace hF := ite_f hF c1
            refine g_bipush (pc1 := 199) (v := (-5 : Int32)) C d_M_setUp_197 rfl bp_m5 ?_
            exact g_iret C hr hlk d_M_setUp_199 (fst_of hF) (congrArg (WM a cs) (snd_of hF))
        · replace hF := ite_t hF c1
          exact g_sub [0, 4] rfl (p_M_setUp_169 C hK hr hlk  μ x4 hF)
    · replace hF := ite_f hF c1
      refine g_aload_n (pc1 := 68) C d_M_setUp_67 rfl rfl 0 rfl ?_
      refine get_WM_0_orders (pc1 := 71) C hK kw_251 d_M_setUp_68 rfl ?_
      refine g_iload (pc1 := 73) C d_M_setUp_71 rfl 5 rfl ?_
      refine g_iconst (pc1 := 74) (v := (0 : Int32)) C d_M_setUp_73 rfl ic_0 ?_
      have hg := gd_some hF
      replace hF := hg.2
      refine g_iast (pc1 := 75) (ws1 := WM a cs (stI μ 10 x6.toNatClampNeg (0 : Int32))) C hK 10 (f := (μ.1 10)) rfl hg.1 (set_WM_10 _ _ _ _ _) d_M_setUp_74 rfl ?_
      refine g_iconst (pc1 := 76) (v := (0 : Int32)) C d_M_setUp_75 rfl ic_0 ?_
      refine g_istore (pc1 := 78) (L1 := [(7, .int (0 : Int32)), (0, .ref (a 0)), (1, .int x1), (2, .int x2), (3, .int x3), (4, .int x4), (6, .int x6)]) C d_M_setUp_76 rfl (by decide) rfl ?_
      exact g_sub [1, 2, 3, 4, 5, 6, 0] rfl (p_M_setUp_78 C hK hr hlk K62 hK62 (stI μ 10 x6.toNatClampNeg (0 : Int32)) x1 x2 x3 x4 x6 (0 : Int32) hF)
set_option maxHeartbeats 4000000 in
set_option maxRecDepth 100000 in
theorem c_M_setUp (l : Launch) (D : va_G) (cs : Nat → ClassId) (a : Nat → Nat) (μ : Mem) (x1 : Int32) (x2 : Int32) (x3 : Int32) (x4 : Int32) (r : Int32) (μ1 : Mem) (hF : F_M_setUp μ x1 x2 x3 x4 = some (r, μ1)) : MetI l y_M_setUp b_M_setUp 9 (some .int) { frames := 5, cells := 0, slots := 0, locals := 123 } D cs (AM a) (WM a cs μ) [.ref (a 0), .int x1, .int x2, .int x3, .int x4] r (WM a cs μ1) := by
  refine met_of rfl (by decide +kernel) (Nat.le_of_ble_eq_true rfl) (fun p e s m below meth c C hK hr hlk => ?_)
  unfold F_M_setUp at hF
  show G p l e { frames := 5, cells := 0, slots := 0, locals := 123 } s m _ below meth c _ D (AM a) 9 (WM a cs μ) 0 [(0, .ref (a 0)), (1, .int x1), (2, .int x2), (3, .int x3), (4, .int x4)] []
  refine g_aload_n (pc1 := 1) C d_M_setUp_0 rfl rfl 0 rfl ?_
  refine g_iconst (pc1 := 2) (v := (0 : Int32)) C d_M_setUp_1 rfl ic_0 ?_
  refine put_WM_0_thrown (pc1 := 5) C hK kw_178 d_M_setUp_2 rfl ?_
  refine g_iload_n (pc1 := 6) C d_M_setUp_5 rfl rfl 1 rfl ?_
  refine g_i2l (pc1 := 7) C d_M_setUp_6 rfl ?_
  refine g_lconst (pc1 := 8) (v := (1 : Int64)) C d_M_setUp_7 rfl lc_1 ?_
  refine g_ldc2 (pc1 := 11) (v := (4 : Int64)) C d_M_setUp_8 rfl kw_250 ?_
  obtain ⟨r1, hr1, hF⟩ := bnd_some hF
  refine g_callSI (pc1 := 14) (As := [.long (x1.toInt64), .long (1 : Int64), .long (4 : Int64)]) (rest := []) C 3 (c_M_in l (x1.toInt64) (1 : Int64) (4 : Int64) r1 hr1) s_M_in kw_173 rfl ⟨Nat.le_of_ble_eq_true rfl, Nat.le_of_ble_eq_true rfl⟩ ⟨rfl, rfl⟩ d_M_setUp_11 rfl rfl (Nat.le_of_ble_eq_true rfl) ?_
  refine g_if_eq (pc1 := 17) C 31 d_M_setUp_14 rfl (by decide) (fun c1 => ?_) (fun c1 => ?_)
  · replace hF := ite_t hF c1
    exact g_sub [0] rfl (p_M_setUp_31 C hK hr hlk  (stI μ 0 0 (0 : Int32)) hF)
  · replace hF := ite_f hF c1
    refine g_iload_n (pc1 := 18) C d_M_setUp_17 rfl rfl 2 rfl ?_
    refine g_iload_n (pc1 := 19) C d_M_setUp_18 rfl rfl 3 rfl ?_
    obtain ⟨r2, hr2, hF⟩ := bnd_some hF
    refine g_callSI (pc1 := 22) (As := [.int x2, .int x3]) (rest := []) C 2 (c_M_noGust l x2 x3 r2 hr2) s_M_noGust kw_233 rfl ⟨Nat.le_of_ble_eq_true rfl, Nat.le_of_ble_eq_true rfl⟩ ⟨rfl, rfl⟩ d_M_setUp_19 rfl rfl (Nat.le_of_ble_eq_true rfl) ?_
    refine g_if_ne (pc1 := 25) C 31 d_M_setUp_22 rfl (by decide) (fun c1 => ?_) (fun c1 => ?_)
    · replace hF := ite_f hF c1
      exact g_sub [0] rfl (p_M_setUp_31 C hK hr hlk  (stI μ 0 0 (0 : Int32)) hF)
    · replace hF := ite_t hF c1
      refine g_iload (pc1 := 27) C d_M_setUp_25 rfl 4 rfl ?_
      refine g_iconst (pc1 := 28) (v := (-1 : Int32)) C d_M_setUp_27 rfl ic_m1 ?_
      refine g_icmp_ge (pc1 := 31) C 36 d_M_setUp_28 rfl (by decide) (fun c1 => ?_) (fun c1 => ?_)
      · replace hF := ite_t hF c1
        refine g_iconst (pc1 := 37) (v := (1 : Int32)) C d_M_setUp_36 rfl ic_1 ?_
        refine g_aload_n (pc1 := 38) C d_M_setUp_37 rfl rfl 0 rfl ?_
        refine get_WM_0_field (pc1 := 41) C hK kw_172 d_M_setUp_38 rfl ?_
        refine g_iconst (pc1 := 42) (v := (0 : Int32)) C d_M_setUp_41 rfl ic_0 ?_
        have hg := gd_some hF
        replace hF := hg.2
        refine g_iald (pc1 := 43) C hK 2 (f := (μ.1 2)) rfl hg.1 d_M_setUp_42 rfl ?_
        refine g_ishl (pc1 := 44) C d_M_setUp_43 rfl ?_
        refine g_iconst (pc1 := 45) (v := (1 : Int32)) C d_M_setUp_44 rfl ic_1 ?_
        refine g_isub (pc1 := 46) C d_M_setUp_45 rfl ?_
        refine g_istore (pc1 := 48) (L1 := [(5, .int (((1 : Int32) <<< (((μ.1 2) (0 : Int32).toNatClampNeg) &&& 31)) - (1 : Int32))), (0, .ref (a 0)), (1, .int x1), (2, .int x2), (3, .int x3), (4, .int x4)]) C d_M_setUp_46 rfl (by decide) rfl ?_
        refine g_aload_n (pc1 := 49) C d_M_setUp_48 rfl rfl 1 rfl ?_
        refine get_WM_0_orders (pc1 := 52) C hK kw_251 d_M_setUp_49 rfl ?_
        refine g_iload (pc1 := 54) C d_M_setUp_52 rfl 0 rfl ?_
        refine g_iconst (pc1 := 55) (v := (1 : Int32)) C d_M_setUp_54 rfl ic_1 ?_
        have hg := gd_some hF
        replace hF := hg.2
        refine g_iast (pc1 := 56) (ws1 := WM a cs (stI (stI μ 0 0 (0 : Int32)) 10 (((1 : Int32) <<< (((μ.1 2) (0 : Int32).toNatClampNeg) &&& 31)) - (1 : Int32)).toNatClampNeg (1 : Int32))) C hK 10 (f := (μ.1 10)) rfl hg.1 (set_WM_10 _ _ _ _ _) d_M_setUp_55 rfl ?_
        refine g_iload (pc1 := 58) C d_M_setUp_56 rfl 0 rfl ?_
        refine g_iconst (pc1 := 59) (v := (1 : Int32)) C d_M_setUp_58 rfl ic_1 ?_
        refine g_isub (pc1 := 60) C d_M_setUp_59 rfl ?_
        refine g_istore (pc1 := 62) (L1 := [(6, .int ((((1 : Int32) <<< (((μ.1 2) (0 : Int32).toNatClampNeg) &&& 31)) - (1 : Int32)) - (1 : Int32))), (5, .int (((1 : Int32) <<< (((μ.1 2) (0 : Int32).toNatClampNeg) &&& 31)) - (1 : Int32))), (0, .ref (a 0)), (1, .int x1), (2, .int x2), (3, .int x3), (4, .int x4)]) C d_M_setUp_60 rfl (by decide) rfl ?_
        exact g_sub [2, 3, 4, 5, 6, 0] rfl (p_M_setUp_62 C hK hr hlk  (stI (stI μ 0 0 (0 : Int32)) 10 (((1 : Int32) <<< (((μ.1 2) (0 : Int32).toNatClampNeg) &&& 31)) - (1 : Int32)).toNatClampNeg (1 : Int32)) x1 x2 x3 x4 ((((1 : Int32) <<< (((μ.1 2) (0 : Int32).toNatClampNeg) &&& 31)) - (1 : Int32)) - (1 : Int32)) hF)
      · replace hF := ite_f hF c1
        exact g_sub [0] rfl (p_M_setUp_31 C hK hr hlk  (stI μ 0 0 (0 : Int32)) hF)
-- TentPegsModel.morning(II)I
set_option maxHeartbeats 4000000 in
set_option maxRecDepth 100000 in
theorem p_M_morning_48 {p : Program} {l : Launch} {e : Env} {s : State} {m : MethodId} {args : Array Value} {below : List Frame} {meth : Method} {c : Code} {D : va_G} {cs : Nat → ClassId} {a : Nat → Nat} {r : Int32} {μ1 : Mem} (C : Cx p s m args c b_M_morning 8 "TentPegsModel") (hK : va_K D classes (tys cs) s) (hr : meth.sig.returnType = (some .int)) (hlk : meth.locks = false)  (μ : Mem)  (hF : F_M_morning_48  μ = some (r, μ1)) : G p l e { frames := 5, cells := 0, slots := 0, locals := 117 } s m args below meth c (MQ below (Qi (AM a) D (WM a cs μ1) r) args s 0 0 (AM a)) D (AM a) 8 (WM a cs μ) 48 [(0, .ref (a 0))] [] := by
  unfold F_M_morning_48 at hF
  refine g_aload_n (pc1 := 49) C d_M_morning_48 rfl rfl 0 rfl ?_
  obtain ⟨⟨r1, m1⟩, hm1, hF⟩ := bnd_some hF
  refine g_callVI (pc1 := 52) (ws1 := WM a cs m1) (As := []) (rest := []) (b := a 0) C hK 0 (c_M_badTen l D cs a μ  r1 m1 hm1) s_M_badTen kw_238 0 rfl rfl rfl ⟨Nat.le_of_ble_eq_true rfl, Nat.le_of_ble_eq_true rfl⟩ ⟨rfl, rfl⟩ d_M_morning_49 rfl rfl (Nat.le_of_ble_eq_true rfl) ?_
  exact g_iret C hr hlk d_M_morning_52 (fst_of hF) (congrArg (WM a cs) (snd_of hF))
set_option maxHeartbeats 4000000 in
set_option maxRecDepth 100000 in
theorem p_M_morning_134 {p : Program} {l : Launch} {e : Env} {s : State} {m : MethodId} {args : Array Value} {below : List Frame} {meth : Method} {c : Code} {D : va_G} {cs : Nat → ClassId} {a : Nat → Nat} {r : Int32} {μ1 : Mem} (C : Cx p s m args c b_M_morning 8 "TentPegsModel") (hK : va_K D classes (tys cs) s) (hr : meth.sig.returnType = (some .int)) (hlk : meth.locks = false) (K61 : Mem → Int32 → Int32 → Int32 → Int32 → Int32 → Option (Int32 × Mem)) (hK61 : ∀ (μ : Mem) (x1 : Int32) (x2 : Int32) (x3 : Int32) (x4 : Int32) (x5 : Int32), K61 μ x1 x2 x3 x4 x5 = some (r, μ1) → G p l e { frames := 5, cells := 0, slots := 0, locals := 117 } s m args below meth c (MQ below (Qi (AM a) D (WM a cs μ1) r) args s 0 0 (AM a)) D (AM a) 8 (WM a cs μ) 61 [(0, .ref (a 0)), (1, .int x1), (2, .int x2), (3, .int x3), (4, .int x4), (5, .int x5)] []) (K71 : Mem → Int32 → Int32 → Int32 → Int32 → Int32 → Int32 → Option (Int32 × Mem)) (hK71 : ∀ (μ : Mem) (x1 : Int32) (x2 : Int32) (x3 : Int32) (x4 : Int32) (x5 : Int32) (x6 : Int32), K71 μ x1 x2 x3 x4 x5 x6 = some (r, μ1) → G p l e { frames := 5, cells := 0, slots := 0, locals := 117 } s m args below meth c (MQ below (Qi (AM a) D (WM a cs μ1) r) args s 0 0 (AM a)) D (AM a) 8 (WM a cs μ) 71 [(0, .ref (a 0)), (1, .int x1), (2, .int x2), (3, .int x3), (4, .int x4), (5, .int x5), (6, .int x6)] []) (μ : Mem) (x1 : Int32) (x2 : Int32) (x3 : Int32) (x5 : Int32) (x6 : Int32) (x7 : Int32) (s0 : Int32) (hF : F_M_morning_134 K61 K71 μ x1 x2 x3 x5 x6 x7 s0 = some (r, μ1)) : G p l e { frames := 5, cells := 0, slots := 0, locals := 117 } s m args below meth c (MQ below (Qi (AM a) D (WM a cs μ1) r) args s 0 0 (AM a)) D (AM a) 8 (WM a cs μ) 134 [(0, .ref (a 0)), (1, .int x1), (2, .int x2), (3, .int x3), (5, .int x5), (6, .int x6), (7, .int x7)] [.int s0] := by
  unfold F_M_morning_134 at hF
  refine g_istore (pc1 := 136) (L1 := [(4, .int s0), (0, .ref (a 0)), (1, .int x1), (2, .int x2), (3, .int x3), (5, .int x5), (6, .int x6), (7, .int x7)]) C d_M_morning_134 rfl (by decide) rfl ?_
  refine g_iload_n (pc1 := 137) C d_M_morning_136 rfl rfl 4 rfl ?_
  refine g_iload (pc1 := 139) C d_M_morning_137 rfl 7 rfl ?_
  refine g_if_eq (pc1 := 142) C 146 d_M_morning_139 rfl (by decide) (fun c1 => ?_) (fun c1 => ?_)
  · replace hF := ite_t hF c1
    refine g_iconst (pc1 := 147) (v := (0 : Int32)) C d_M_morning_146 rfl ic_0 ?_
    refine g_iadd (pc1 := 148) C d_M_morning_147 rfl ?_
    refine g_istore_n (pc1 := 149) (L1 := [(3, .int (x3 + (0 : Int32))), (4, .int s0), (0, .ref (a 0)), (1, .int x1), (2, .int x2), (5, .int x5), (6, .int x6), (7, .int x7)]) C d_M_morning_148 rfl rfl (by decide) rfl ?_
    refine g_iinc (pc1 := 152) (v := (x6 + (1 : Int32))) (L1 := [(6, .int (x6 + (1 : Int32))), (3, .int (x3 + (0 : Int32))), (4, .int s0), (0, .ref (a 0)), (1, .int x1), (2, .int x2), (5, .int x5), (7, .int x7)]) C d_M_morning_149 rfl 6 rfl (by rw [ic_1]) (by decide) rfl ?_
    refine g_goto C 71 d_M_morning_152 (by decide) ?_
    exact g_sub [3, 4, 5, 1, 2, 6, 0] rfl (hK71 μ x1 x2 (x3 + (0 : Int32)) s0 x5 (x6 + (1 : Int32)) hF)
  · replace hF := ite_f hF c1
    refine g_iconst (pc1 := 143) (v := (1 : Int32)) C d_M_morning_142 rfl ic_1 ?_
    refine g_goto C 147 d_M_morning_143 (by decide) ?_
    refine g_iadd (pc1 := 148) C d_M_morning_147 rfl ?_
    refine g_istore_n (pc1 := 149) (L1 := [(3, .int (x3 + (1 : Int32))), (4, .int s0), (0, .ref (a 0)), (1, .int x1), (2, .int x2), (5, .int x5), (6, .int x6), (7, .int x7)]) C d_M_morning_148 rfl rfl (by decide) rfl ?_
    refine g_iinc (pc1 := 152) (v := (x6 + (1 : Int32))) (L1 := [(6, .int (x6 + (1 : Int32))), (3, .int (x3 + (1 : Int32))), (4, .int s0), (0, .ref (a 0)), (1, .int x1), (2, .int x2), (5, .int x5), (7, .int x7)]) C d_M_morning_149 rfl 6 rfl (by rw [ic_1]) (by decide) rfl ?_
    refine g_goto C 71 d_M_morning_152 (by decide) ?_
    exact g_sub [3, 4, 5, 1, 2, 6, 0] rfl (hK71 μ x1 x2 (x3 + (1 : Int32)) s0 x5 (x6 + (1 : Int32)) hF)
set_option maxHeartbeats 4000000 in
set_option maxRecDepth 100000 in
theorem p_M_morning_132 {p : Program} {l : Launch} {e : Env} {s : State} {m : MethodId} {args : Array Value} {below : List Frame} {meth : Method} {c : Code} {D : va_G} {cs : Nat → ClassId} {a : Nat → Nat} {r : Int32} {μ1 : Mem} (C : Cx p s m args c b_M_morning 8 "TentPegsModel") (hK : va_K D classes (tys cs) s) (hr : meth.sig.returnType = (some .int)) (hlk : meth.locks = false) (K61 : Mem → Int32 → Int32 → Int32 → Int32 → Int32 → Option (Int32 × Mem)) (hK61 : ∀ (μ : Mem) (x1 : Int32) (x2 : Int32) (x3 : Int32) (x4 : Int32) (x5 : Int32), K61 μ x1 x2 x3 x4 x5 = some (r, μ1) → G p l e { frames := 5, cells := 0, slots := 0, locals := 117 } s m args below meth c (MQ below (Qi (AM a) D (WM a cs μ1) r) args s 0 0 (AM a)) D (AM a) 8 (WM a cs μ) 61 [(0, .ref (a 0)), (1, .int x1), (2, .int x2), (3, .int x3), (4, .int x4), (5, .int x5)] []) (K71 : Mem → Int32 → Int32 → Int32 → Int32 → Int32 → Int32 → Option (Int32 × Mem)) (hK71 : ∀ (μ : Mem) (x1 : Int32) (x2 : Int32) (x3 : Int32) (x4 : Int32) (x5 : Int32) (x6 : Int32), K71 μ x1 x2 x3 x4 x5 x6 = some (r, μ1) → G p l e { frames := 5, cells := 0, slots := 0, locals := 117 } s m args below meth c (MQ below (Qi (AM a) D (WM a cs μ1) r) args s 0 0 (AM a)) D (AM a) 8 (WM a cs μ) 71 [(0, .ref (a 0)), (1, .int x1), (2, .int x2), (3, .int x3), (4, .int x4), (5, .int x5), (6, .int x6)] []) (μ : Mem) (x1 : Int32) (x2 : Int32) (x3 : Int32) (x4 : Int32) (x5 : Int32) (x6 : Int32) (x7 : Int32) (hF : F_M_morning_132 K61 K71 μ x1 x2 x3 x4 x5 x6 x7 = some (r, μ1)) : G p l e { frames := 5, cells := 0, slots := 0, locals := 117 } s m args below meth c (MQ below (Qi (AM a) D (WM a cs μ1) r) args s 0 0 (AM a)) D (AM a) 8 (WM a cs μ) 132 [(0, .ref (a 0)), (1, .int x1), (2, .int x2), (3, .int x3), (4, .int x4), (5, .int x5), (6, .int x6), (7, .int x7)] [] := by
  unfold F_M_morning_132 at hF
  refine g_iload (pc1 := 134) C d_M_morning_132 rfl 4 rfl ?_
  exact g_sub [0, 1, 2, 3, 5, 6, 7] rfl (p_M_morning_134 C hK hr hlk K61 hK61 K71 hK71 μ x1 x2 x3 x5 x6 x7 x4 hF)
set_option maxHeartbeats 4000000 in
set_option maxRecDepth 100000 in
theorem p_M_morning_110 {p : Program} {l : Launch} {e : Env} {s : State} {m : MethodId} {args : Array Value} {below : List Frame} {meth : Method} {c : Code} {D : va_G} {cs : Nat → ClassId} {a : Nat → Nat} {r : Int32} {μ1 : Mem} (C : Cx p s m args c b_M_morning 8 "TentPegsModel") (hK : va_K D classes (tys cs) s) (hr : meth.sig.returnType = (some .int)) (hlk : meth.locks = false) (K61 : Mem → Int32 → Int32 → Int32 → Int32 → Int32 → Option (Int32 × Mem)) (hK61 : ∀ (μ : Mem) (x1 : Int32) (x2 : Int32) (x3 : Int32) (x4 : Int32) (x5 : Int32), K61 μ x1 x2 x3 x4 x5 = some (r, μ1) → G p l e { frames := 5, cells := 0, slots := 0, locals := 117 } s m args below meth c (MQ below (Qi (AM a) D (WM a cs μ1) r) args s 0 0 (AM a)) D (AM a) 8 (WM a cs μ) 61 [(0, .ref (a 0)), (1, .int x1), (2, .int x2), (3, .int x3), (4, .int x4), (5, .int x5)] []) (K71 : Mem → Int32 → Int32 → Int32 → Int32 → Int32 → Int32 → Option (Int32 × Mem)) (hK71 : ∀ (μ : Mem) (x1 : Int32) (x2 : Int32) (x3 : Int32) (x4 : Int32) (x5 : Int32) (x6 : Int32), K71 μ x1 x2 x3 x4 x5 x6 = some (r, μ1) → G p l e { frames := 5, cells := 0, slots := 0, locals := 117 } s m args below meth c (MQ below (Qi (AM a) D (WM a cs μ1) r) args s 0 0 (AM a)) D (AM a) 8 (WM a cs μ) 71 [(0, .ref (a 0)), (1, .int x1), (2, .int x2), (3, .int x3), (4, .int x4), (5, .int x5), (6, .int x6)] []) (μ : Mem) (x1 : Int32) (x2 : Int32) (x3 : Int32) (x4 : Int32) (x5 : Int32) (x6 : Int32) (s0 : Int32) (hF : F_M_morning_110 K61 K71 μ x1 x2 x3 x4 x5 x6 s0 = some (r, μ1)) : G p l e { frames := 5, cells := 0, slots := 0, locals := 117 } s m args below meth c (MQ below (Qi (AM a) D (WM a cs μ1) r) args s 0 0 (AM a)) D (AM a) 8 (WM a cs μ) 110 [(0, .ref (a 0)), (1, .int x1), (2, .int x2), (3, .int x3), (4, .int x4), (5, .int x5), (6, .int x6)] [.int s0] := by
  unfold F_M_morning_110 at hF
  refine g_istore (pc1 := 112) (L1 := [(7, .int s0), (0, .ref (a 0)), (1, .int x1), (2, .int x2), (3, .int x3), (4, .int x4), (5, .int x5), (6, .int x6)]) C d_M_morning_110 rfl (by decide) rfl ?_
  refine g_iload (pc1 := 114) C d_M_morning_112 rfl 0 rfl ?_
  refine g_if_eq (pc1 := 117) C 132 d_M_morning_114 rfl (by decide) (fun c1 => ?_) (fun c1 => ?_)
  · replace hF := ite_t hF c1
    exact g_sub [1, 2, 3, 4, 5, 6, 7, 0] rfl (p_M_morning_132 C hK hr hlk K61 hK61 K71 hK71 μ x1 x2 x3 x4 x5 x6 s0 hF)
  · replace hF := ite_f hF c1
    refine g_iload_n (pc1 := 118) C d_M_morning_117 rfl rfl 4 rfl ?_
    refine g_if_ne (pc1 := 121) C 132 d_M_morning_118 rfl (by decide) (fun c1 => ?_) (fun c1 => ?_)
    · replace hF := ite_f hF c1
      exact g_sub [1, 2, 3, 4, 5, 6, 7, 0] rfl (p_M_morning_132 C hK hr hlk K61 hK61 K71 hK71 μ x1 x2 x3 x4 x5 x6 s0 hF)
    · replace hF := ite_t hF c1
      refine g_bipush (pc1 := 123) (v := (100 : Int32)) C d_M_morning_121 rfl bp_100 ?_
      refine g_iload (pc1 := 125) C d_M_morning_123 rfl 6 rfl ?_
      refine g_imul (pc1 := 126) C d_M_morning_125 rfl ?_
      refine g_iload (pc1 := 128) C d_M_morning_126 rfl 7 rfl ?_
      refine g_iadd (pc1 := 129) C d_M_morning_128 rfl ?_
      refine g_goto C 134 d_M_morning_129 (by decide) ?_
      exact g_sub [1, 2, 3, 4, 6, 7, 0] rfl (p_M_morning_134 C hK hr hlk K61 hK61 K71 hK71 μ x1 x2 x3 x5 x6 s0 (((100 : Int32) * x5) + x6) hF)
set_option maxHeartbeats 4000000 in
set_option maxRecDepth 100000 in
theorem p_M_morning_71 {p : Program} {l : Launch} {e : Env} {s : State} {m : MethodId} {args : Array Value} {below : List Frame} {meth : Method} {c : Code} {D : va_G} {cs : Nat → ClassId} {a : Nat → Nat} {r : Int32} {μ1 : Mem} (C : Cx p s m args c b_M_morning 8 "TentPegsModel") (hK : va_K D classes (tys cs) s) (hr : meth.sig.returnType = (some .int)) (hlk : meth.locks = false) (K61 : Mem → Int32 → Int32 → Int32 → Int32 → Int32 → Option (Int32 × Mem)) (hK61 : ∀ (μ : Mem) (x1 : Int32) (x2 : Int32) (x3 : Int32) (x4 : Int32) (x5 : Int32), K61 μ x1 x2 x3 x4 x5 = some (r, μ1) → G p l e { frames := 5, cells := 0, slots := 0, locals := 117 } s m args below meth c (MQ below (Qi (AM a) D (WM a cs μ1) r) args s 0 0 (AM a)) D (AM a) 8 (WM a cs μ) 61 [(0, .ref (a 0)), (1, .int x1), (2, .int x2), (3, .int x3), (4, .int x4), (5, .int x5)] []) : ∀ (μ : Mem) (x1 : Int32) (x2 : Int32) (x3 : Int32) (x4 : Int32) (x5 : Int32) (x6 : Int32), F_M_morning_71 K61 μ x1 x2 x3 x4 x5 x6 = some (r, μ1) → G p l e { frames := 5, cells := 0, slots := 0, locals := 117 } s m args below meth c (MQ below (Qi (AM a) D (WM a cs μ1) r) args s 0 0 (AM a)) D (AM a) 8 (WM a cs μ) 71 [(0, .ref (a 0)), (1, .int x1), (2, .int x2), (3, .int x3), (4, .int x4), (5, .int x5), (6, .int x6)] [] := by
  refine iter_ind (fun (K71 : Mem → Int32 → Int32 → Int32 → Int32 → Int32 → Int32 → Option (Int32 × Mem)) => ∀ (μ : Mem) (x1 : Int32) (x2 : Int32) (x3 : Int32) (x4 : Int32) (x5 : Int32) (x6 : Int32), K71 μ x1 x2 x3 x4 x5 x6 = some (r, μ1) → G p l e { frames := 5, cells := 0, slots := 0, locals := 117 } s m args below meth c (MQ below (Qi (AM a) D (WM a cs μ1) r) args s 0 0 (AM a)) D (AM a) 8 (WM a cs μ) 71 [(0, .ref (a 0)), (1, .int x1), (2, .int x2), (3, .int x3), (4, .int x4), (5, .int x5), (6, .int x6)] []) ?_ ?_ NF
  · intro μ x1 x2 x3 x4 x5 x6 hF
    exact none_no hF
  · intro K71 hK71 μ x1 x2 x3 x4 x5 x6 hF
    unfold S_M_morning_71 at hF
    refine g_iload (pc1 := 73) C d_M_morning_71 rfl 6 rfl ?_
    refine g_bipush (pc1 := 75) (v := (60 : Int32)) C d_M_morning_73 rfl bp_60 ?_
    refine g_icmp_gt (pc1 := 78) C 155 d_M_morning_75 rfl (by decide) (fun c1 => ?_) (fun c1 => ?_)
    · replace hF := ite_t hF c1
      refine g_iinc (pc1 := 158) (v := (x5 + (1 : Int32))) (L1 := [(5, .int (x5 + (1 : Int32))), (0, .ref (a 0)), (1, .int x1), (2, .int x2), (3, .int x3), (4, .int x4), (6, .int x6)]) C d_M_morning_155 rfl 5 rfl (by rw [ic_1]) (by decide) rfl ?_
      refine g_goto C 61 d_M_morning_158 (by decide) ?_
      exact g_sub [1, 2, 3, 4, 5, 0] rfl (hK61 μ x1 x2 x3 x4 (x5 + (1 : Int32)) hF)
    · replace hF := ite_f hF c1
      refine g_aload_n (pc1 := 79) C d_M_morning_78 rfl rfl 0 rfl ?_
      refine g_aload_n (pc1 := 80) C d_M_morning_79 rfl rfl 0 rfl ?_
      refine get_WM_0_field (pc1 := 83) C hK kw_172 d_M_morning_80 rfl ?_
      refine g_iconst (pc1 := 84) (v := (1 : Int32)) C d_M_morning_83 rfl ic_1 ?_
      have hg := gd_some hF
      replace hF := hg.2
      refine g_iald (pc1 := 85) C hK 2 (f := (μ.1 2)) rfl hg.1 d_M_morning_84 rfl ?_
      refine g_iload (pc1 := 87) C d_M_morning_85 rfl 5 rfl ?_
      refine g_iload (pc1 := 89) C d_M_morning_87 rfl 6 rfl ?_
      obtain ⟨⟨r1, m1⟩, hm1, hF⟩ := bnd_some hF
      refine g_callVI (pc1 := 92) (ws1 := WM a cs m1) (As := [.int ((μ.1 2) (1 : Int32).toNatClampNeg), .int x5, .int x6]) (rest := []) (b := a 0) C hK 3 (c_M_behind l D cs a μ ((μ.1 2) (1 : Int32).toNatClampNeg) x5 x6 r1 m1 hm1) s_M_behind kw_236 0 rfl rfl rfl ⟨Nat.le_of_ble_eq_true rfl, Nat.le_of_ble_eq_true rfl⟩ ⟨rfl, rfl⟩ d_M_morning_89 rfl rfl (Nat.le_of_ble_eq_true rfl) ?_
      refine g_aload_n (pc1 := 93) C d_M_morning_92 rfl rfl 0 rfl ?_
      refine get_WM_0_field (pc1 := 96) C hK kw_172 d_M_morning_93 rfl ?_
      refine g_iconst (pc1 := 97) (v := (1 : Int32)) C d_M_morning_96 rfl ic_1 ?_
      have hg := gd_some hF
      replace hF := hg.2
      refine g_iald (pc1 := 98) C hK 2 (f := (m1.1 2)) rfl hg.1 d_M_morning_97 rfl ?_
      refine g_iload_n (pc1 := 99) C d_M_morning_98 rfl rfl 1 rfl ?_
      refine g_iconst (pc1 := 100) (v := (-1 : Int32)) C d_M_morning_99 rfl ic_m1 ?_
      refine g_ixor (pc1 := 101) C d_M_morning_100 rfl ?_
      refine g_iand (pc1 := 102) C d_M_morning_101 rfl ?_
      refine g_icmp_ne (pc1 := 105) C 109 d_M_morning_102 rfl (by decide) (fun c1 => ?_) (fun c1 => ?_)
      · replace hF := ite_f hF c1
        refine g_iconst (pc1 := 110) (v := (0 : Int32)) C d_M_morning_109 rfl ic_0 ?_
        exact g_sub [0, 1, 2, 3, 4, 5, 6] rfl (p_M_morning_110 C hK hr hlk K61 hK61 K71 hK71 m1 x1 x2 x3 x4 x5 x6 (0 : Int32) hF)
      · replace hF := ite_t hF c1
        refine g_iconst (pc1 := 106) (v := (1 : Int32)) C d_M_morning_105 rfl ic_1 ?_
        refine g_goto C 110 d_M_morning_106 (by decide) ?_
        exact g_sub [0, 1, 2, 3, 4, 5, 6] rfl (p_M_morning_110 C hK hr hlk K61 hK61 K71 hK71 m1 x1 x2 x3 x4 x5 x6 (1 : Int32) hF)
set_option maxHeartbeats 4000000 in
set_option maxRecDepth 100000 in
theorem p_M_morning_61 {p : Program} {l : Launch} {e : Env} {s : State} {m : MethodId} {args : Array Value} {below : List Frame} {meth : Method} {c : Code} {D : va_G} {cs : Nat → ClassId} {a : Nat → Nat} {r : Int32} {μ1 : Mem} (C : Cx p s m args c b_M_morning 8 "TentPegsModel") (hK : va_K D classes (tys cs) s) (hr : meth.sig.returnType = (some .int)) (hlk : meth.locks = false)  : ∀ (μ : Mem) (x1 : Int32) (x2 : Int32) (x3 : Int32) (x4 : Int32) (x5 : Int32), F_M_morning_61  μ x1 x2 x3 x4 x5 = some (r, μ1) → G p l e { frames := 5, cells := 0, slots := 0, locals := 117 } s m args below meth c (MQ below (Qi (AM a) D (WM a cs μ1) r) args s 0 0 (AM a)) D (AM a) 8 (WM a cs μ) 61 [(0, .ref (a 0)), (1, .int x1), (2, .int x2), (3, .int x3), (4, .int x4), (5, .int x5)] [] := by
  refine iter_ind (fun (K61 : Mem → Int32 → Int32 → Int32 → Int32 → Int32 → Option (Int32 × Mem)) => ∀ (μ : Mem) (x1 : Int32) (x2 : Int32) (x3 : Int32) (x4 : Int32) (x5 : Int32), K61 μ x1 x2 x3 x4 x5 = some (r, μ1) → G p l e { frames := 5, cells := 0, slots := 0, locals := 117 } s m args below meth c (MQ below (Qi (AM a) D (WM a cs μ1) r) args s 0 0 (AM a)) D (AM a) 8 (WM a cs μ) 61 [(0, .ref (a 0)), (1, .int x1), (2, .int x2), (3, .int x3), (4, .int x4), (5, .int x5)] []) ?_ ?_ NF
  · intro μ x1 x2 x3 x4 x5 hF
    exact none_no hF
  · intro K61 hK61 μ x1 x2 x3 x4 x5 hF
    unfold S_M_morning_61 at hF
    refine g_iload (pc1 := 63) C d_M_morning_61 rfl 5 rfl ?_
    refine g_bipush (pc1 := 65) (v := (8 : Int32)) C d_M_morning_63 rfl bp_8 ?_
    refine g_icmp_ge (pc1 := 68) C 161 d_M_morning_65 rfl (by decide) (fun c1 => ?_) (fun c1 => ?_)
    · replace hF := ite_t hF c1
      refine g_iload_n (pc1 := 162) C d_M_morning_161 rfl rfl 2 rfl ?_
      refine g_if_ne (pc1 := 165) C 169 d_M_morning_162 rfl (by decide) (fun c1 => ?_) (fun c1 => ?_)
      · replace hF := ite_f hF c1
        refine g_iload (pc1 := 171) C d_M_morning_169 rfl 4 rfl ?_
        exact g_iret C hr hlk d_M_morning_171 (fst_of hF) (congrArg (WM a cs) (snd_of hF))
      · replace hF := ite_t hF c1
        refine g_iload_n (pc1 := 166) C d_M_morning_165 rfl rfl 3 rfl ?_
        refine g_goto C 171 d_M_morning_166 (by decide) ?_
        exact g_iret C hr hlk d_M_morning_171 (fst_of hF) (congrArg (WM a cs) (snd_of hF))
    · replace hF := ite_f hF c1
      refine g_iconst (pc1 := 69) (v := (0 : Int32)) C d_M_morning_68 rfl ic_0 ?_
      refine g_istore (pc1 := 71) (L1 := [(6, .int (0 : Int32)), (0, .ref (a 0)), (1, .int x1), (2, .int x2), (3, .int x3), (4, .int x4), (5, .int x5)]) C d_M_morning_69 rfl (by decide) rfl ?_
      exact g_sub [1, 2, 3, 4, 5, 6, 0] rfl (p_M_morning_71 C hK hr hlk K61 hK61 μ x1 x2 x3 x4 x5 (0 : Int32) hF)
set_option maxHeartbeats 4000000 in
set_option maxRecDepth 100000 in
theorem c_M_morning (l : Launch) (D : va_G) (cs : Nat → ClassId) (a : Nat → Nat) (μ : Mem) (x1 : Int32) (x2 : Int32) (r : Int32) (μ1 : Mem) (hF : F_M_morning μ x1 x2 = some (r, μ1)) : MetI l y_M_morning b_M_morning 8 (some .int) { frames := 5, cells := 0, slots := 0, locals := 117 } D cs (AM a) (WM a cs μ) [.ref (a 0), .int x1, .int x2] r (WM a cs μ1) := by
  refine met_of rfl (by decide +kernel) (Nat.le_of_ble_eq_true rfl) (fun p e s m below meth c C hK hr hlk => ?_)
  unfold F_M_morning at hF
  show G p l e { frames := 5, cells := 0, slots := 0, locals := 117 } s m _ below meth c _ D (AM a) 8 (WM a cs μ) 0 [(0, .ref (a 0)), (1, .int x1), (2, .int x2)] []
  refine g_aload_n (pc1 := 1) C d_M_morning_0 rfl rfl 0 rfl ?_
  refine g_iconst (pc1 := 2) (v := (0 : Int32)) C d_M_morning_1 rfl ic_0 ?_
  refine put_WM_0_thrown (pc1 := 5) C hK kw_178 d_M_morning_2 rfl ?_
  refine g_iload_n (pc1 := 6) C d_M_morning_5 rfl rfl 1 rfl ?_
  refine g_i2l (pc1 := 7) C d_M_morning_6 rfl ?_
  refine g_lconst (pc1 := 8) (v := (0 : Int64)) C d_M_morning_7 rfl lc_0 ?_
  refine g_iconst (pc1 := 9) (v := (1 : Int32)) C d_M_morning_8 rfl ic_1 ?_
  refine g_aload_n (pc1 := 10) C d_M_morning_9 rfl rfl 0 rfl ?_
  refine get_WM_0_field (pc1 := 13) C hK kw_172 d_M_morning_10 rfl ?_
  refine g_iconst (pc1 := 14) (v := (0 : Int32)) C d_M_morning_13 rfl ic_0 ?_
  have hg := gd_some hF
  replace hF := hg.2
  refine g_iald (pc1 := 15) C hK 2 (f := (μ.1 2)) rfl hg.1 d_M_morning_14 rfl ?_
  refine g_ishl (pc1 := 16) C d_M_morning_15 rfl ?_
  refine g_iconst (pc1 := 17) (v := (1 : Int32)) C d_M_morning_16 rfl ic_1 ?_
  refine g_isub (pc1 := 18) C d_M_morning_17 rfl ?_
  refine g_i2l (pc1 := 19) C d_M_morning_18 rfl ?_
  obtain ⟨r1, hr1, hF⟩ := bnd_some hF
  refine g_callSI (pc1 := 22) (As := [.long (x1.toInt64), .long (0 : Int64), .long ((((1 : Int32) <<< (((μ.1 2) (0 : Int32).toNatClampNeg) &&& 31)) - (1 : Int32)).toInt64)]) (rest := []) C 3 (c_M_in l (x1.toInt64) (0 : Int64) ((((1 : Int32) <<< (((μ.1 2) (0 : Int32).toNatClampNeg) &&& 31)) - (1 : Int32)).toInt64) r1 hr1) s_M_in kw_173 rfl ⟨Nat.le_of_ble_eq_true rfl, Nat.le_of_ble_eq_true rfl⟩ ⟨rfl, rfl⟩ d_M_morning_19 rfl rfl (Nat.le_of_ble_eq_true rfl) ?_
  refine g_if_eq (pc1 := 25) C 48 d_M_morning_22 rfl (by decide) (fun c1 => ?_) (fun c1 => ?_)
  · replace hF := ite_t hF c1
    exact g_sub [0] rfl (p_M_morning_48 C hK hr hlk  (stI μ 0 0 (0 : Int32)) hF)
  · replace hF := ite_f hF c1
    refine g_iload_n (pc1 := 26) C d_M_morning_25 rfl rfl 1 rfl ?_
    refine g_aload_n (pc1 := 27) C d_M_morning_26 rfl rfl 0 rfl ?_
    refine get_WM_0_field (pc1 := 30) C hK kw_172 d_M_morning_27 rfl ?_
    refine g_iconst (pc1 := 31) (v := (1 : Int32)) C d_M_morning_30 rfl ic_1 ?_
    have hg := gd_some hF
    replace hF := hg.2
    refine g_iald (pc1 := 32) C hK 2 (f := (μ.1 2)) rfl hg.1 d_M_morning_31 rfl ?_
    refine g_iconst (pc1 := 33) (v := (-1 : Int32)) C d_M_morning_32 rfl ic_m1 ?_
    refine g_ixor (pc1 := 34) C d_M_morning_33 rfl ?_
    refine g_iand (pc1 := 35) C d_M_morning_34 rfl ?_
    refine g_if_ne (pc1 := 38) C 48 d_M_morning_35 rfl (by decide) (fun c1 => ?_) (fun c1 => ?_)
    · replace hF := ite_f hF c1
      exact g_sub [0] rfl (p_M_morning_48 C hK hr hlk  (stI μ 0 0 (0 : Int32)) hF)
    · replace hF := ite_t hF c1
      refine g_iload_n (pc1 := 39) C d_M_morning_38 rfl rfl 2 rfl ?_
      refine g_i2l (pc1 := 40) C d_M_morning_39 rfl ?_
      refine g_lconst (pc1 := 41) (v := (0 : Int64)) C d_M_morning_40 rfl lc_0 ?_
      refine g_lconst (pc1 := 42) (v := (1 : Int64)) C d_M_morning_41 rfl lc_1 ?_
      obtain ⟨r2, hr2, hF⟩ := bnd_some hF
      refine g_callSI (pc1 := 45) (As := [.long (x2.toInt64), .long (0 : Int64), .long (1 : Int64)]) (rest := []) C 3 (c_M_in l (x2.toInt64) (0 : Int64) (1 : Int64) r2 hr2) s_M_in kw_173 rfl ⟨Nat.le_of_ble_eq_true rfl, Nat.le_of_ble_eq_true rfl⟩ ⟨rfl, rfl⟩ d_M_morning_42 rfl rfl (Nat.le_of_ble_eq_true rfl) ?_
      refine g_if_ne (pc1 := 48) C 53 d_M_morning_45 rfl (by decide) (fun c1 => ?_) (fun c1 => ?_)
      · replace hF := ite_f hF c1
        refine g_iconst (pc1 := 54) (v := (0 : Int32)) C d_M_morning_53 rfl ic_0 ?_
        refine g_istore_n (pc1 := 55) (L1 := [(3, .int (0 : Int32)), (0, .ref (a 0)), (1, .int x1), (2, .int x2)]) C d_M_morning_54 rfl rfl (by decide) rfl ?_
        refine g_iconst (pc1 := 56) (v := (-1 : Int32)) C d_M_morning_55 rfl ic_m1 ?_
        refine g_istore (pc1 := 58) (L1 := [(4, .int (-1 : Int32)), (3, .int (0 : Int32)), (0, .ref (a 0)), (1, .int x1), (2, .int x2)]) C d_M_morning_56 rfl (by decide) rfl ?_
        refine g_iconst (pc1 := 59) (v := (0 : Int32)) C d_M_morning_58 rfl ic_0 ?_
        refine g_istore (pc1 := 61) (L1 := [(5, .int (0 : Int32)), (4, .int (-1 : Int32)), (3, .int (0 : Int32)), (0, .ref (a 0)), (1, .int x1), (2, .int x2)]) C d_M_morning_59 rfl (by decide) rfl ?_
        exact g_sub [3, 4, 5, 2, 1, 0] rfl (p_M_morning_61 C hK hr hlk  (stI μ 0 0 (0 : Int32)) x1 x2 (0 : Int32) (-1 : Int32) (0 : Int32) hF)
      · replace hF := ite_t hF c1
        exact g_sub [0] rfl (p_M_morning_48 C hK hr hlk  (stI μ 0 0 (0 : Int32)) hF)
-- TentPegsModel.balance(III)I
set_option maxHeartbeats 4000000 in
set_option maxRecDepth 100000 in
theorem p_M_balance_19 {p : Program} {l : Launch} {e : Env} {s : State} {m : MethodId} {args : Array Value} {below : List Frame} {meth : Method} {c : Code} {D : va_G} {cs : Nat → ClassId} {a : Nat → Nat} {r : Int32} {μ1 : Mem} (C : Cx p s m args c b_M_balance 8 "TentPegsModel") (hK : va_K D classes (tys cs) s) (hr : meth.sig.returnType = (some .int)) (hlk : meth.locks = false) (K9 : Mem → Int32 → Int32 → Int32 → Int32 → Int32 → Option (Int32 × Mem)) (hK9 : ∀ (μ : Mem) (x2 : Int32) (x3 : Int32) (x4 : Int32) (x5 : Int32) (x6 : Int32), K9 μ x2 x3 x4 x5 x6 = some (r, μ1) → G p l e { frames := 4, cells := 0, slots := 0, locals := 93 } s m args below meth c (MQ below (Qi (AM a) D (WM a cs μ1) r) args s 0 0 (AM a)) D (AM a) 8 (WM a cs μ) 9 [(0, .ref (a 0)), (2, .int x2), (3, .int x3), (4, .int x4), (5, .int x5), (6, .int x6)] []) : ∀ (μ : Mem) (x2 : Int32) (x3 : Int32) (x4 : Int32) (x5 : Int32) (x6 : Int32) (x7 : Int32), F_M_balance_19 K9 μ x2 x3 x4 x5 x6 x7 = some (r, μ1) → G p l e { frames := 4, cells := 0, slots := 0, locals := 93 } s m args below meth c (MQ below (Qi (AM a) D (WM a cs μ1) r) args s 0 0 (AM a)) D (AM a) 8 (WM a cs μ) 19 [(0, .ref (a 0)), (2, .int x2), (3, .int x3), (4, .int x4), (5, .int x5), (6, .int x6), (7, .int x7)] [] := by
  refine iter_ind (fun (K19 : Mem → Int32 → Int32 → Int32 → Int32 → Int32 → Int32 → Option (Int32 × Mem)) => ∀ (μ : Mem) (x2 : Int32) (x3 : Int32) (x4 : Int32) (x5 : Int32) (x6 : Int32) (x7 : Int32), K19 μ x2 x3 x4 x5 x6 x7 = some (r, μ1) → G p l e { frames := 4, cells := 0, slots := 0, locals := 93 } s m args below meth c (MQ below (Qi (AM a) D (WM a cs μ1) r) args s 0 0 (AM a)) D (AM a) 8 (WM a cs μ) 19 [(0, .ref (a 0)), (2, .int x2), (3, .int x3), (4, .int x4), (5, .int x5), (6, .int x6), (7, .int x7)] []) ?_ ?_ NF
  · intro μ x2 x3 x4 x5 x6 x7 hF
    exact none_no hF
  · intro K19 hK19 μ x2 x3 x4 x5 x6 x7 hF
    unfold S_M_balance_19 at hF
    refine g_iload (pc1 := 21) C d_M_balance_19 rfl 6 rfl ?_
    refine g_aload_n (pc1 := 22) C d_M_balance_21 rfl rfl 0 rfl ?_
    refine get_WM_0_field (pc1 := 25) C hK kw_172 d_M_balance_22 rfl ?_
    refine g_iconst (pc1 := 26) (v := (0 : Int32)) C d_M_balance_25 rfl ic_0 ?_
    have hg := gd_some hF
    replace hF := hg.2
    refine g_iald (pc1 := 27) C hK 2 (f := (μ.1 2)) rfl hg.1 d_M_balance_26 rfl ?_
    refine g_icmp_ge (pc1 := 30) C 87 d_M_balance_27 rfl (by decide) (fun c1 => ?_) (fun c1 => ?_)
    · replace hF := ite_t hF c1
      refine g_iinc (pc1 := 90) (v := (x6 + (1 : Int32))) (L1 := [(6, .int (x6 + (1 : Int32))), (0, .ref (a 0)), (2, .int x2), (3, .int x3), (4, .int x4), (5, .int x5), (7, .int x7)]) C d_M_balance_87 rfl 5 rfl (by rw [ic_1]) (by decide) rfl ?_
      refine g_goto C 9 d_M_balance_90 (by decide) ?_
      exact g_sub [1, 2, 3, 4, 5, 0] rfl (hK9 μ x2 x3 x4 x5 (x6 + (1 : Int32)) hF)
    · replace hF := ite_f hF c1
      refine g_aload_n (pc1 := 31) C d_M_balance_30 rfl rfl 0 rfl ?_
      refine get_WM_0_field (pc1 := 34) C hK kw_172 d_M_balance_31 rfl ?_
      refine g_iconst (pc1 := 35) (v := (1 : Int32)) C d_M_balance_34 rfl ic_1 ?_
      have hg := gd_some hF
      replace hF := hg.2
      refine g_iald (pc1 := 36) C hK 2 (f := (μ.1 2)) rfl hg.1 d_M_balance_35 rfl ?_
      refine g_iload (pc1 := 38) C d_M_balance_36 rfl 6 rfl ?_
      obtain ⟨r1, hr1, hF⟩ := bnd_some hF
      refine g_callSI (pc1 := 41) (As := [.int ((μ.1 2) (1 : Int32).toNatClampNeg), .int x7]) (rest := []) C 2 (c_M_has l ((μ.1 2) (1 : Int32).toNatClampNeg) x7 r1 hr1) s_M_has kw_188 rfl ⟨Nat.le_of_ble_eq_true rfl, Nat.le_of_ble_eq_true rfl⟩ ⟨rfl, rfl⟩ d_M_balance_38 rfl rfl (Nat.le_of_ble_eq_true rfl) ?_
      refine g_if_eq (pc1 := 44) C 81 d_M_balance_41 rfl (by decide) (fun c1 => ?_) (fun c1 => ?_)
      · replace hF := ite_t hF c1
        refine g_iinc (pc1 := 84) (v := (x7 + (1 : Int32))) (L1 := [(7, .int (x7 + (1 : Int32))), (0, .ref (a 0)), (2, .int x2), (3, .int x3), (4, .int x4), (5, .int x5), (6, .int x6)]) C d_M_balance_81 rfl 6 rfl (by rw [ic_1]) (by decide) rfl ?_
        refine g_goto C 19 d_M_balance_84 (by decide) ?_
        exact g_sub [1, 2, 3, 4, 5, 6, 0] rfl (hK19 μ x2 x3 x4 x5 x6 (x7 + (1 : Int32)) hF)
      · replace hF := ite_f hF c1
        refine g_aload_n (pc1 := 45) C d_M_balance_44 rfl rfl 0 rfl ?_
        refine g_iload (pc1 := 47) C d_M_balance_45 rfl 6 rfl ?_
        refine g_iconst (pc1 := 48) (v := (0 : Int32)) C d_M_balance_47 rfl ic_0 ?_
        refine g_aload_n (pc1 := 49) C d_M_balance_48 rfl rfl 0 rfl ?_
        refine g_iload (pc1 := 51) C d_M_balance_49 rfl 6 rfl ?_
        refine g_iload_n (pc1 := 52) C d_M_balance_51 rfl rfl 1 rfl ?_
        refine g_iload_n (pc1 := 53) C d_M_balance_52 rfl rfl 2 rfl ?_
        obtain ⟨r2, hr2, hF⟩ := bnd_some hF
        refine g_callVI (pc1 := 56) (ws1 := WM a cs μ) (As := [.int x7, .int x2, .int x3]) (rest := [.int (0 : Int32), .int x7, .ref (a 0)]) (b := a 0) C hK 3 (c_M_pullNow l D cs a μ x7 x2 x3 r2 hr2) s_M_pullNow kw_237 0 rfl rfl rfl ⟨Nat.le_of_ble_eq_true rfl, Nat.le_of_ble_eq_true rfl⟩ ⟨rfl, rfl⟩ d_M_balance_53 rfl rfl (Nat.le_of_ble_eq_true rfl) ?_
        obtain ⟨⟨r3, m3⟩, hm3, hF⟩ := bnd_some hF
        refine g_callVI (pc1 := 59) (ws1 := WM a cs m3) (As := [.int x7, .int (0 : Int32), .int r2]) (rest := []) (b := a 0) C hK 3 (c_M_depthFor l D cs a μ x7 (0 : Int32) r2 r3 m3 hm3) s_M_depthFor kw_243 0 rfl rfl rfl ⟨Nat.le_of_ble_eq_true rfl, Nat.le_of_ble_eq_true rfl⟩ ⟨rfl, rfl⟩ d_M_balance_56 rfl rfl (Nat.le_of_ble_eq_true rfl) ?_
        refine g_iload (pc1 := 61) C d_M_balance_59 rfl 5 rfl ?_
        refine g_icmp_ne (pc1 := 64) C 81 d_M_balance_61 rfl (by decide) (fun c1 => ?_) (fun c1 => ?_)
        · replace hF := ite_f hF c1
          refine g_iinc (pc1 := 84) (v := (x7 + (1 : Int32))) (L1 := [(7, .int (x7 + (1 : Int32))), (0, .ref (a 0)), (2, .int x2), (3, .int x3), (4, .int x4), (5, .int x5), (6, .int x6)]) C d_M_balance_81 rfl 6 rfl (by rw [ic_1]) (by decide) rfl ?_
          refine g_goto C 19 d_M_balance_84 (by decide) ?_
          exact g_sub [1, 2, 3, 4, 5, 6, 0] rfl (hK19 m3 x2 x3 x4 x5 x6 (x7 + (1 : Int32)) hF)
        · replace hF := ite_t hF c1
          refine g_iload (pc1 := 66) C d_M_balance_64 rfl 3 rfl ?_
          refine g_iload (pc1 := 68) C d_M_balance_66 rfl 5 rfl ?_
          refine g_icmp_lt (pc1 := 71) C 81 d_M_balance_68 rfl (by decide) (fun c1 => ?_) (fun c1 => ?_)
          · replace hF := ite_t hF c1
            refine g_iinc (pc1 := 84) (v := (x7 + (1 : Int32))) (L1 := [(7, .int (x7 + (1 : Int32))), (0, .ref (a 0)), (2, .int x2), (3, .int x3), (4, .int x4), (5, .int x5), (6, .int x6)]) C d_M_balance_81 rfl 6 rfl (by rw [ic_1]) (by decide) rfl ?_
            refine g_goto C 19 d_M_balance_84 (by decide) ?_
            exact g_sub [1, 2, 3, 4, 5, 6, 0] rfl (hK19 m3 x2 x3 x4 x5 x6 (x7 + (1 : Int32)) hF)
          · replace hF := ite_f hF c1
            refine g_iload (pc1 := 73) C d_M_balance_71 rfl 3 rfl ?_
            refine g_iload (pc1 := 75) C d_M_balance_73 rfl 5 rfl ?_
            refine g_isub (pc1 := 76) C d_M_balance_75 rfl ?_
            refine g_istore (pc1 := 78) (L1 := [(4, .int (x4 - x6)), (0, .ref (a 0)), (2, .int x2), (3, .int x3), (5, .int x5), (6, .int x6), (7, .int x7)]) C d_M_balance_76 rfl (by decide) rfl ?_
            refine g_iinc (pc1 := 81) (v := (x5 + (1 : Int32))) (L1 := [(5, .int (x5 + (1 : Int32))), (4, .int (x4 - x6)), (0, .ref (a 0)), (2, .int x2), (3, .int x3), (6, .int x6), (7, .int x7)]) C d_M_balance_78 rfl 4 rfl (by rw [ic_1]) (by decide) rfl ?_
            refine g_iinc (pc1 := 84) (v := (x7 + (1 : Int32))) (L1 := [(7, .int (x7 + (1 : Int32))), (5, .int (x5 + (1 : Int32))), (4, .int (x4 - x6)), (0, .ref (a 0)), (2, .int x2), (3, .int x3), (6, .int x6)]) C d_M_balance_81 rfl 6 rfl (by rw [ic_1]) (by decide) rfl ?_
            refine g_goto C 19 d_M_balance_84 (by decide) ?_
            exact g_sub [3, 4, 5, 2, 1, 6, 0] rfl (hK19 m3 x2 x3 (x4 - x6) (x5 + (1 : Int32)) x6 (x7 + (1 : Int32)) hF)
set_option maxHeartbeats 4000000 in
set_option maxRecDepth 100000 in
theorem p_M_balance_9 {p : Program} {l : Launch} {e : Env} {s : State} {m : MethodId} {args : Array Value} {below : List Frame} {meth : Method} {c : Code} {D : va_G} {cs : Nat → ClassId} {a : Nat → Nat} {r : Int32} {μ1 : Mem} (C : Cx p s m args c b_M_balance 8 "TentPegsModel") (hK : va_K D classes (tys cs) s) (hr : meth.sig.returnType = (some .int)) (hlk : meth.locks = false)  : ∀ (μ : Mem) (x2 : Int32) (x3 : Int32) (x4 : Int32) (x5 : Int32) (x6 : Int32), F_M_balance_9  μ x2 x3 x4 x5 x6 = some (r, μ1) → G p l e { frames := 4, cells := 0, slots := 0, locals := 93 } s m args below meth c (MQ below (Qi (AM a) D (WM a cs μ1) r) args s 0 0 (AM a)) D (AM a) 8 (WM a cs μ) 9 [(0, .ref (a 0)), (2, .int x2), (3, .int x3), (4, .int x4), (5, .int x5), (6, .int x6)] [] := by
  refine iter_ind (fun (K9 : Mem → Int32 → Int32 → Int32 → Int32 → Int32 → Option (Int32 × Mem)) => ∀ (μ : Mem) (x2 : Int32) (x3 : Int32) (x4 : Int32) (x5 : Int32) (x6 : Int32), K9 μ x2 x3 x4 x5 x6 = some (r, μ1) → G p l e { frames := 4, cells := 0, slots := 0, locals := 93 } s m args below meth c (MQ below (Qi (AM a) D (WM a cs μ1) r) args s 0 0 (AM a)) D (AM a) 8 (WM a cs μ) 9 [(0, .ref (a 0)), (2, .int x2), (3, .int x3), (4, .int x4), (5, .int x5), (6, .int x6)] []) ?_ ?_ NF
  · intro μ x2 x3 x4 x5 x6 hF
    exact none_no hF
  · intro K9 hK9 μ x2 x3 x4 x5 x6 hF
    unfold S_M_balance_9 at hF
    refine g_iload (pc1 := 11) C d_M_balance_9 rfl 5 rfl ?_
    refine g_bipush (pc1 := 13) (v := (10 : Int32)) C d_M_balance_11 rfl bp_10 ?_
    refine g_icmp_ge (pc1 := 16) C 93 d_M_balance_13 rfl (by decide) (fun c1 => ?_) (fun c1 => ?_)
    · replace hF := ite_t hF c1
      refine g_iload (pc1 := 95) C d_M_balance_93 rfl 4 rfl ?_
      exact g_iret C hr hlk d_M_balance_95 (fst_of hF) (congrArg (WM a cs) (snd_of hF))
    · replace hF := ite_f hF c1
      refine g_iconst (pc1 := 17) (v := (0 : Int32)) C d_M_balance_16 rfl ic_0 ?_
      refine g_istore (pc1 := 19) (L1 := [(7, .int (0 : Int32)), (0, .ref (a 0)), (2, .int x2), (3, .int x3), (4, .int x4), (5, .int x5), (6, .int x6)]) C d_M_balance_17 rfl (by decide) rfl ?_
      exact g_sub [1, 2, 3, 4, 5, 6, 0] rfl (p_M_balance_19 C hK hr hlk K9 hK9 μ x2 x3 x4 x5 x6 (0 : Int32) hF)
set_option maxHeartbeats 4000000 in
set_option maxRecDepth 100000 in
theorem c_M_balance (l : Launch) (D : va_G) (cs : Nat → ClassId) (a : Nat → Nat) (μ : Mem) (x1 : Int32) (x2 : Int32) (x3 : Int32) (r : Int32) (μ1 : Mem) (hF : F_M_balance μ x1 x2 x3 = some (r, μ1)) : MetI l y_M_balance b_M_balance 8 (some .int) { frames := 4, cells := 0, slots := 0, locals := 93 } D cs (AM a) (WM a cs μ) [.ref (a 0), .int x1, .int x2, .int x3] r (WM a cs μ1) := by
  refine met_of rfl (by decide +kernel) (Nat.le_of_ble_eq_true rfl) (fun p e s m below meth c C hK hr hlk => ?_)
  unfold F_M_balance at hF
  show G p l e { frames := 4, cells := 0, slots := 0, locals := 93 } s m _ below meth c _ D (AM a) 8 (WM a cs μ) 0 [(0, .ref (a 0)), (1, .int x1), (2, .int x2), (3, .int x3)] []
  refine g_iload_n (pc1 := 1) C d_M_balance_0 rfl rfl 1 rfl ?_
  refine g_istore (pc1 := 3) (L1 := [(4, .int x1), (0, .ref (a 0)), (1, .int x1), (2, .int x2), (3, .int x3)]) C d_M_balance_1 rfl (by decide) rfl ?_
  refine g_iconst (pc1 := 4) (v := (0 : Int32)) C d_M_balance_3 rfl ic_0 ?_
  refine g_istore (pc1 := 6) (L1 := [(5, .int (0 : Int32)), (4, .int x1), (0, .ref (a 0)), (1, .int x1), (2, .int x2), (3, .int x3)]) C d_M_balance_4 rfl (by decide) rfl ?_
  refine g_iconst (pc1 := 7) (v := (0 : Int32)) C d_M_balance_6 rfl ic_0 ?_
  refine g_istore (pc1 := 9) (L1 := [(6, .int (0 : Int32)), (5, .int (0 : Int32)), (4, .int x1), (0, .ref (a 0)), (1, .int x1), (2, .int x2), (3, .int x3)]) C d_M_balance_7 rfl (by decide) rfl ?_
  exact g_sub [3, 5, 6, 2, 1, 0] rfl (p_M_balance_9 C hK hr hlk  μ x2 x3 x1 (0 : Int32) (0 : Int32) hF)
-- TentPegsModel.lent(III)I
set_option maxHeartbeats 4000000 in
set_option maxRecDepth 100000 in
theorem p_M_lent_25 {p : Program} {l : Launch} {e : Env} {s : State} {m : MethodId} {args : Array Value} {below : List Frame} {meth : Method} {c : Code} {D : va_G} {cs : Nat → ClassId} {a : Nat → Nat} {r : Int32} {μ1 : Mem} (C : Cx p s m args c b_M_lent 10 "TentPegsModel") (hK : va_K D classes (tys cs) s) (hr : meth.sig.returnType = (some .int)) (hlk : meth.locks = false)  (μ : Mem)  (hF : F_M_lent_25  μ = some (r, μ1)) : G p l e { frames := 5, cells := 0, slots := 0, locals := 120 } s m args below meth c (MQ below (Qi (AM a) D (WM a cs μ1) r) args s 0 0 (AM a)) D (AM a) 10 (WM a cs μ) 25 [(0, .ref (a 0))] [] := by
  unfold F_M_lent_25 at hF
  refine g_aload_n (pc1 := 26) C d_M_lent_25 rfl rfl 0 rfl ?_
  obtain ⟨⟨r1, m1⟩, hm1, hF⟩ := bnd_some hF
  refine g_callVI (pc1 := 29) (ws1 := WM a cs m1) (As := []) (rest := []) (b := a 0) C hK 0 (c_M_badTen l D cs a μ  r1 m1 hm1) s_M_badTen kw_238 0 rfl rfl rfl ⟨Nat.le_of_ble_eq_true rfl, Nat.le_of_ble_eq_true rfl⟩ ⟨rfl, rfl⟩ d_M_lent_26 rfl rfl (Nat.le_of_ble_eq_true rfl) ?_
  exact g_iret C hr hlk d_M_lent_29 (fst_of hF) (congrArg (WM a cs) (snd_of hF))
set_option maxHeartbeats 4000000 in
set_option maxRecDepth 100000 in
theorem p_M_lent_129 {p : Program} {l : Launch} {e : Env} {s : State} {m : MethodId} {args : Array Value} {below : List Frame} {meth : Method} {c : Code} {D : va_G} {cs : Nat → ClassId} {a : Nat → Nat} {r : Int32} {μ1 : Mem} (C : Cx p s m args c b_M_lent 10 "TentPegsModel") (hK : va_K D classes (tys cs) s) (hr : meth.sig.returnType = (some .int)) (hlk : meth.locks = false) (K42 : Mem → Int32 → Int32 → Int32 → Int32 → Int32 → Int32 → Int32 → Option (Int32 × Mem)) (hK42 : ∀ (μ : Mem) (x1 : Int32) (x2 : Int32) (x3 : Int32) (x4 : Int32) (x5 : Int32) (x6 : Int32) (x7 : Int32), K42 μ x1 x2 x3 x4 x5 x6 x7 = some (r, μ1) → G p l e { frames := 5, cells := 0, slots := 0, locals := 120 } s m args below meth c (MQ below (Qi (AM a) D (WM a cs μ1) r) args s 0 0 (AM a)) D (AM a) 10 (WM a cs μ) 42 [(0, .ref (a 0)), (1, .int x1), (2, .int x2), (3, .int x3), (4, .int x4), (5, .int x5), (6, .int x6), (7, .int x7)] []) (μ : Mem) (x1 : Int32) (x2 : Int32) (x3 : Int32) (x4 : Int32) (x6 : Int32) (x7 : Int32) (s0 : Int32) (s1 : Int32) (hF : F_M_lent_129 K42 μ x1 x2 x3 x4 x6 x7 s0 s1 = some (r, μ1)) : G p l e { frames := 5, cells := 0, slots := 0, locals := 120 } s m args below meth c (MQ below (Qi (AM a) D (WM a cs μ1) r) args s 0 0 (AM a)) D (AM a) 10 (WM a cs μ) 129 [(0, .ref (a 0)), (1, .int x1), (2, .int x2), (3, .int x3), (4, .int x4), (6, .int x6), (7, .int x7)] [.int s0, .int s1] := by
  unfold F_M_lent_129 at hF
  refine g_iadd (pc1 := 130) C d_M_lent_129 rfl ?_
  refine g_istore (pc1 := 132) (L1 := [(5, .int (s1 + s0)), (0, .ref (a 0)), (1, .int x1), (2, .int x2), (3, .int x3), (4, .int x4), (6, .int x6), (7, .int x7)]) C d_M_lent_130 rfl (by decide) rfl ?_
  refine g_iload (pc1 := 134) C d_M_lent_132 rfl 6 rfl ?_
  refine g_aload_n (pc1 := 135) C d_M_lent_134 rfl rfl 1 rfl ?_
  refine get_WM_0_field (pc1 := 138) C hK kw_172 d_M_lent_135 rfl ?_
  refine g_bipush (pc1 := 140) (v := (13 : Int32)) C d_M_lent_138 rfl bp_13 ?_
  refine g_iload (pc1 := 142) C d_M_lent_140 rfl 7 rfl ?_
  refine g_iadd (pc1 := 143) C d_M_lent_142 rfl ?_
  have hg := gd_some hF
  replace hF := hg.2
  refine g_iald (pc1 := 144) C hK 2 (f := (μ.1 2)) rfl hg.1 d_M_lent_143 rfl ?_
  refine g_iadd (pc1 := 145) C d_M_lent_144 rfl ?_
  refine g_istore (pc1 := 147) (L1 := [(6, .int (x6 + ((μ.1 2) ((13 : Int32) + x7).toNatClampNeg))), (5, .int (s1 + s0)), (0, .ref (a 0)), (1, .int x1), (2, .int x2), (3, .int x3), (4, .int x4), (7, .int x7)]) C d_M_lent_145 rfl (by decide) rfl ?_
  refine g_iinc (pc1 := 150) (v := (x7 + (1 : Int32))) (L1 := [(7, .int (x7 + (1 : Int32))), (6, .int (x6 + ((μ.1 2) ((13 : Int32) + x7).toNatClampNeg))), (5, .int (s1 + s0)), (0, .ref (a 0)), (1, .int x1), (2, .int x2), (3, .int x3), (4, .int x4)]) C d_M_lent_147 rfl 7 rfl (by rw [ic_1]) (by decide) rfl ?_
  refine g_goto C 42 d_M_lent_150 (by decide) ?_
  exact g_sub [3, 4, 5, 6, 7, 2, 1, 0] rfl (hK42 μ x1 x2 x3 x4 (s1 + s0) (x6 + ((μ.1 2) ((13 : Int32) + x7).toNatClampNeg)) (x7 + (1 : Int32)) hF)
set_option maxHeartbeats 4000000 in
set_option maxRecDepth 100000 in
theorem p_M_lent_112 {p : Program} {l : Launch} {e : Env} {s : State} {m : MethodId} {args : Array Value} {below : List Frame} {meth : Method} {c : Code} {D : va_G} {cs : Nat → ClassId} {a : Nat → Nat} {r : Int32} {μ1 : Mem} (C : Cx p s m args c b_M_lent 10 "TentPegsModel") (hK : va_K D classes (tys cs) s) (hr : meth.sig.returnType = (some .int)) (hlk : meth.locks = false) (K42 : Mem → Int32 → Int32 → Int32 → Int32 → Int32 → Int32 → Int32 → Option (Int32 × Mem)) (hK42 : ∀ (μ : Mem) (x1 : Int32) (x2 : Int32) (x3 : Int32) (x4 : Int32) (x5 : Int32) (x6 : Int32) (x7 : Int32), K42 μ x1 x2 x3 x4 x5 x6 x7 = some (r, μ1) → G p l e { frames := 5, cells := 0, slots := 0, locals := 120 } s m args below meth c (MQ below (Qi (AM a) D (WM a cs μ1) r) args s 0 0 (AM a)) D (AM a) 10 (WM a cs μ) 42 [(0, .ref (a 0)), (1, .int x1), (2, .int x2), (3, .int x3), (4, .int x4), (5, .int x5), (6, .int x6), (7, .int x7)] []) (μ : Mem) (x1 : Int32) (x2 : Int32) (x3 : Int32) (x5 : Int32) (x6 : Int32) (x7 : Int32) (x9 : Int32) (s0 : Int32) (s1 : Int32) (hF : F_M_lent_112 K42 μ x1 x2 x3 x5 x6 x7 x9 s0 s1 = some (r, μ1)) : G p l e { frames := 5, cells := 0, slots := 0, locals := 120 } s m args below meth c (MQ below (Qi (AM a) D (WM a cs μ1) r) args s 0 0 (AM a)) D (AM a) 10 (WM a cs μ) 112 [(0, .ref (a 0)), (1, .int x1), (2, .int x2), (3, .int x3), (5, .int x5), (6, .int x6), (7, .int x7), (9, .int x9)] [.int s0, .int s1] := by
  unfold F_M_lent_112 at hF
  refine g_iadd (pc1 := 113) C d_M_lent_112 rfl ?_
  refine g_istore (pc1 := 115) (L1 := [(4, .int (s1 + s0)), (0, .ref (a 0)), (1, .int x1), (2, .int x2), (3, .int x3), (5, .int x5), (6, .int x6), (7, .int x7), (9, .int x9)]) C d_M_lent_113 rfl (by decide) rfl ?_
  refine g_iload (pc1 := 117) C d_M_lent_115 rfl 5 rfl ?_
  refine g_iload (pc1 := 119) C d_M_lent_117 rfl 8 rfl ?_
  refine g_if_ge (pc1 := 122) C 128 d_M_lent_119 rfl (by decide) (fun c1 => ?_) (fun c1 => ?_)
  · replace hF := ite_t hF c1
    refine g_iconst (pc1 := 129) (v := (0 : Int32)) C d_M_lent_128 rfl ic_0 ?_
    exact g_sub [1, 2, 3, 4, 0, 6, 7] rfl (p_M_lent_129 C hK hr hlk K42 hK42 μ x1 x2 x3 (s1 + s0) x6 x7 (0 : Int32) x5 hF)
  · replace hF := ite_f hF c1
    refine g_iload (pc1 := 124) C d_M_lent_122 rfl 8 rfl ?_
    refine g_ineg (pc1 := 125) C d_M_lent_124 rfl ?_
    refine g_goto C 129 d_M_lent_125 (by decide) ?_
    exact g_sub [1, 2, 3, 4, 0, 6, 7] rfl (p_M_lent_129 C hK hr hlk K42 hK42 μ x1 x2 x3 (s1 + s0) x6 x7 (-x9) x5 hF)
set_option maxHeartbeats 4000000 in
set_option maxRecDepth 100000 in
theorem p_M_lent_42 {p : Program} {l : Launch} {e : Env} {s : State} {m : MethodId} {args : Array Value} {below : List Frame} {meth : Method} {c : Code} {D : va_G} {cs : Nat → ClassId} {a : Nat → Nat} {r : Int32} {μ1 : Mem} (C : Cx p s m args c b_M_lent 10 "TentPegsModel") (hK : va_K D classes (tys cs) s) (hr : meth.sig.returnType = (some .int)) (hlk : meth.locks = false)  : ∀ (μ : Mem) (x1 : Int32) (x2 : Int32) (x3 : Int32) (x4 : Int32) (x5 : Int32) (x6 : Int32) (x7 : Int32), F_M_lent_42  μ x1 x2 x3 x4 x5 x6 x7 = some (r, μ1) → G p l e { frames := 5, cells := 0, slots := 0, locals := 120 } s m args below meth c (MQ below (Qi (AM a) D (WM a cs μ1) r) args s 0 0 (AM a)) D (AM a) 10 (WM a cs μ) 42 [(0, .ref (a 0)), (1, .int x1), (2, .int x2), (3, .int x3), (4, .int x4), (5, .int x5), (6, .int x6), (7, .int x7)] [] := by
  refine iter_ind (fun (K42 : Mem → Int32 → Int32 → Int32 → Int32 → Int32 → Int32 → Int32 → Option (Int32 × Mem)) => ∀ (μ : Mem) (x1 : Int32) (x2 : Int32) (x3 : Int32) (x4 : Int32) (x5 : Int32) (x6 : Int32) (x7 : Int32), K42 μ x1 x2 x3 x4 x5 x6 x7 = some (r, μ1) → G p l e { frames := 5, cells := 0, slots := 0, locals := 120 } s m args below meth c (MQ below (Qi (AM a) D (WM a cs μ1) r) args s 0 0 (AM a)) D (AM a) 10 (WM a cs μ) 42 [(0, .ref (a 0)), (1, .int x1), (2, .int x2), (3, .int x3), (4, .int x4), (5, .int x5), (6, .int x6), (7, .int x7)] []) ?_ ?_ NF
  · intro μ x1 x2 x3 x4 x5 x6 x7 hF
    exact none_no hF
  · intro K42 hK42 μ x1 x2 x3 x4 x5 x6 x7 hF
    unfold S_M_lent_42 at hF
    refine g_iload (pc1 := 44) C d_M_lent_42 rfl 7 rfl ?_
    refine g_aload_n (pc1 := 45) C d_M_lent_44 rfl rfl 0 rfl ?_
    refine get_WM_0_field (pc1 := 48) C hK kw_172 d_M_lent_45 rfl ?_
    refine g_iconst (pc1 := 49) (v := (0 : Int32)) C d_M_lent_48 rfl ic_0 ?_
    have hg := gd_some hF
    replace hF := hg.2
    refine g_iald (pc1 := 50) C hK 2 (f := (μ.1 2)) rfl hg.1 d_M_lent_49 rfl ?_
    refine g_icmp_ge (pc1 := 53) C 153 d_M_lent_50 rfl (by decide) (fun c1 => ?_) (fun c1 => ?_)
    · replace hF := ite_t hF c1
      refine g_iload_n (pc1 := 154) C d_M_lent_153 rfl rfl 3 rfl ?_
      refine g_if_ne (pc1 := 157) C 162 d_M_lent_154 rfl (by decide) (fun c1 => ?_) (fun c1 => ?_)
      · replace hF := ite_f hF c1
        refine g_iload_n (pc1 := 163) C d_M_lent_162 rfl rfl 3 rfl ?_
        refine g_iconst (pc1 := 164) (v := (1 : Int32)) C d_M_lent_163 rfl ic_1 ?_
        refine g_icmp_ne (pc1 := 167) C 172 d_M_lent_164 rfl (by decide) (fun c1 => ?_) (fun c1 => ?_)
        · replace hF := ite_f hF c1
          refine g_aload_n (pc1 := 173) C d_M_lent_172 rfl rfl 0 rfl ?_
          refine g_iload (pc1 := 175) C d_M_lent_173 rfl 6 rfl ?_
          refine g_iload_n (pc1 := 176) C d_M_lent_175 rfl rfl 1 rfl ?_
          refine g_iload_n (pc1 := 177) C d_M_lent_176 rfl rfl 2 rfl ?_
          obtain ⟨⟨r1, m1⟩, hm1, hF⟩ := bnd_some hF
          refine g_callVI (pc1 := 180) (ws1 := WM a cs m1) (As := [.int x6, .int x1, .int x2]) (rest := []) (b := a 0) C hK 3 (c_M_balance l D cs a μ x6 x1 x2 r1 m1 hm1) s_M_balance kw_253 0 rfl rfl rfl ⟨Nat.le_of_ble_eq_true rfl, Nat.le_of_ble_eq_true rfl⟩ ⟨rfl, rfl⟩ d_M_lent_177 rfl rfl (Nat.le_of_ble_eq_true rfl) ?_
          exact g_iret C hr hlk d_M_lent_180 (fst_of hF) (congrArg (WM a cs) (snd_of hF))
        · replace hF := ite_t hF c1
          refine g_iload (pc1 := 169) C d_M_lent_167 rfl 5 rfl ?_
          refine g_goto C 180 d_M_lent_169 (by decide) ?_
          exact g_iret C hr hlk d_M_lent_180 (fst_of hF) (congrArg (WM a cs) (snd_of hF))
      · replace hF := ite_t hF c1
        refine g_iload (pc1 := 159) C d_M_lent_157 rfl 4 rfl ?_
        refine g_goto C 180 d_M_lent_159 (by decide) ?_
        exact g_iret C hr hlk d_M_lent_180 (fst_of hF) (congrArg (WM a cs) (snd_of hF))
    · replace hF := ite_f hF c1
      refine g_aload_n (pc1 := 54) C d_M_lent_53 rfl rfl 0 rfl ?_
      refine get_WM_0_field (pc1 := 57) C hK kw_172 d_M_lent_54 rfl ?_
      refine g_iconst (pc1 := 58) (v := (1 : Int32)) C d_M_lent_57 rfl ic_1 ?_
      have hg := gd_some hF
      replace hF := hg.2
      refine g_iald (pc1 := 59) C hK 2 (f := (μ.1 2)) rfl hg.1 d_M_lent_58 rfl ?_
      refine g_iload (pc1 := 61) C d_M_lent_59 rfl 7 rfl ?_
      obtain ⟨r2, hr2, hF⟩ := bnd_some hF
      refine g_callSI (pc1 := 64) (As := [.int ((μ.1 2) (1 : Int32).toNatClampNeg), .int x7]) (rest := []) C 2 (c_M_has l ((μ.1 2) (1 : Int32).toNatClampNeg) x7 r2 hr2) s_M_has kw_188 rfl ⟨Nat.le_of_ble_eq_true rfl, Nat.le_of_ble_eq_true rfl⟩ ⟨rfl, rfl⟩ d_M_lent_61 rfl rfl (Nat.le_of_ble_eq_true rfl) ?_
      refine g_if_eq (pc1 := 67) C 147 d_M_lent_64 rfl (by decide) (fun c1 => ?_) (fun c1 => ?_)
      · replace hF := ite_t hF c1
        refine g_iinc (pc1 := 150) (v := (x7 + (1 : Int32))) (L1 := [(7, .int (x7 + (1 : Int32))), (0, .ref (a 0)), (1, .int x1), (2, .int x2), (3, .int x3), (4, .int x4), (5, .int x5), (6, .int x6)]) C d_M_lent_147 rfl 7 rfl (by rw [ic_1]) (by decide) rfl ?_
        refine g_goto C 42 d_M_lent_150 (by decide) ?_
        exact g_sub [1, 2, 3, 4, 5, 6, 7, 0] rfl (hK42 μ x1 x2 x3 x4 x5 x6 (x7 + (1 : Int32)) hF)
      · replace hF := ite_f hF c1
        refine g_aload_n (pc1 := 68) C d_M_lent_67 rfl rfl 0 rfl ?_
        refine g_iload (pc1 := 70) C d_M_lent_68 rfl 7 rfl ?_
        refine g_iconst (pc1 := 71) (v := (0 : Int32)) C d_M_lent_70 rfl ic_0 ?_
        refine g_aload_n (pc1 := 72) C d_M_lent_71 rfl rfl 0 rfl ?_
        refine g_iload (pc1 := 74) C d_M_lent_72 rfl 7 rfl ?_
        refine g_iload_n (pc1 := 75) C d_M_lent_74 rfl rfl 1 rfl ?_
        refine g_iload_n (pc1 := 76) C d_M_lent_75 rfl rfl 2 rfl ?_
        obtain ⟨r3, hr3, hF⟩ := bnd_some hF
        refine g_callVI (pc1 := 79) (ws1 := WM a cs μ) (As := [.int x7, .int x1, .int x2]) (rest := [.int (0 : Int32), .int x7, .ref (a 0)]) (b := a 0) C hK 3 (c_M_pullNow l D cs a μ x7 x1 x2 r3 hr3) s_M_pullNow kw_237 0 rfl rfl rfl ⟨Nat.le_of_ble_eq_true rfl, Nat.le_of_ble_eq_true rfl⟩ ⟨rfl, rfl⟩ d_M_lent_76 rfl rfl (Nat.le_of_ble_eq_true rfl) ?_
        obtain ⟨⟨r4, m4⟩, hm4, hF⟩ := bnd_some hF
        refine g_callVI (pc1 := 82) (ws1 := WM a cs m4) (As := [.int x7, .int (0 : Int32), .int r3]) (rest := []) (b := a 0) C hK 3 (c_M_depthFor l D cs a μ x7 (0 : Int32) r3 r4 m4 hm4) s_M_depthFor kw_243 0 rfl rfl rfl ⟨Nat.le_of_ble_eq_true rfl, Nat.le_of_ble_eq_true rfl⟩ ⟨rfl, rfl⟩ d_M_lent_79 rfl rfl (Nat.le_of_ble_eq_true rfl) ?_
        refine g_istore (pc1 := 84) (L1 := [(8, .int r4), (0, .ref (a 0)), (1, .int x1), (2, .int x2), (3, .int x3), (4, .int x4), (5, .int x5), (6, .int x6), (7, .int x7)]) C d_M_lent_82 rfl (by decide) rfl ?_
        refine g_aload_n (pc1 := 85) C d_M_lent_84 rfl rfl 1 rfl ?_
        refine get_WM_0_field (pc1 := 88) C hK kw_172 d_M_lent_85 rfl ?_
        refine g_bipush (pc1 := 90) (v := (13 : Int32)) C d_M_lent_88 rfl bp_13 ?_
        refine g_iload (pc1 := 92) C d_M_lent_90 rfl 8 rfl ?_
        refine g_iadd (pc1 := 93) C d_M_lent_92 rfl ?_
        have hg := gd_some hF
        replace hF := hg.2
        refine g_iald (pc1 := 94) C hK 2 (f := (m4.1 2)) rfl hg.1 d_M_lent_93 rfl ?_
        refine g_iload (pc1 := 96) C d_M_lent_94 rfl 0 rfl ?_
        refine g_isub (pc1 := 97) C d_M_lent_96 rfl ?_
        refine g_istore (pc1 := 99) (L1 := [(9, .int (((m4.1 2) ((13 : Int32) + x7).toNatClampNeg) - r4)), (8, .int r4), (0, .ref (a 0)), (1, .int x1), (2, .int x2), (3, .int x3), (4, .int x4), (5, .int x5), (6, .int x6), (7, .int x7)]) C d_M_lent_97 rfl (by decide) rfl ?_
        refine g_iload (pc1 := 101) C d_M_lent_99 rfl 6 rfl ?_
        refine g_iload (pc1 := 103) C d_M_lent_101 rfl 0 rfl ?_
        refine g_if_le (pc1 := 106) C 111 d_M_lent_103 rfl (by decide) (fun c1 => ?_) (fun c1 => ?_)
        · replace hF := ite_t hF c1
          refine g_iconst (pc1 := 112) (v := (0 : Int32)) C d_M_lent_111 rfl ic_0 ?_
          exact g_sub [2, 3, 4, 5, 7, 8, 9, 0] rfl (p_M_lent_112 C hK hr hlk K42 hK42 m4 x1 x2 x3 x5 x6 x7 (((m4.1 2) ((13 : Int32) + x7).toNatClampNeg) - r4) (0 : Int32) x4 hF)
        · replace hF := ite_f hF c1
          refine g_iload (pc1 := 108) C d_M_lent_106 rfl 0 rfl ?_
          refine g_goto C 112 d_M_lent_108 (by decide) ?_
          exact g_sub [2, 3, 4, 5, 7, 8, 9, 0] rfl (p_M_lent_112 C hK hr hlk K42 hK42 m4 x1 x2 x3 x5 x6 x7 (((m4.1 2) ((13 : Int32) + x7).toNatClampNeg) - r4) (((m4.1 2) ((13 : Int32) + x7).toNatClampNeg) - r4) x4 hF)
set_option maxHeartbeats 4000000 in
set_option maxRecDepth 100000 in
theorem c_M_lent (l : Launch) (D : va_G) (cs : Nat → ClassId) (a : Nat → Nat) (μ : Mem) (x1 : Int32) (x2 : Int32) (x3 : Int32) (r : Int32) (μ1 : Mem) (hF : F_M_lent μ x1 x2 x3 = some (r, μ1)) : MetI l y_M_lent b_M_lent 10 (some .int) { frames := 5, cells := 0, slots := 0, locals := 120 } D cs (AM a) (WM a cs μ) [.ref (a 0), .int x1, .int x2, .int x3] r (WM a cs μ1) := by
  refine met_of rfl (by decide +kernel) (Nat.le_of_ble_eq_true rfl) (fun p e s m below meth c C hK hr hlk => ?_)
  unfold F_M_lent at hF
  show G p l e { frames := 5, cells := 0, slots := 0, locals := 120 } s m _ below meth c _ D (AM a) 10 (WM a cs μ) 0 [(0, .ref (a 0)), (1, .int x1), (2, .int x2), (3, .int x3)] []
  refine g_aload_n (pc1 := 1) C d_M_lent_0 rfl rfl 0 rfl ?_
  refine g_iconst (pc1 := 2) (v := (0 : Int32)) C d_M_lent_1 rfl ic_0 ?_
  refine put_WM_0_thrown (pc1 := 5) C hK kw_178 d_M_lent_2 rfl ?_
  refine g_iload_n (pc1 := 6) C d_M_lent_5 rfl rfl 1 rfl ?_
  refine g_iload_n (pc1 := 7) C d_M_lent_6 rfl rfl 2 rfl ?_
  obtain ⟨r1, hr1, hF⟩ := bnd_some hF
  refine g_callSI (pc1 := 10) (As := [.int x1, .int x2]) (rest := []) C 2 (c_M_noGust l x1 x2 r1 hr1) s_M_noGust kw_233 rfl ⟨Nat.le_of_ble_eq_true rfl, Nat.le_of_ble_eq_true rfl⟩ ⟨rfl, rfl⟩ d_M_lent_7 rfl rfl (Nat.le_of_ble_eq_true rfl) ?_
  refine g_if_ne (pc1 := 13) C 25 d_M_lent_10 rfl (by decide) (fun c1 => ?_) (fun c1 => ?_)
  · replace hF := ite_f hF c1
    exact g_sub [0] rfl (p_M_lent_25 C hK hr hlk  (stI μ 0 0 (0 : Int32)) hF)
  · replace hF := ite_t hF c1
    refine g_iload_n (pc1 := 14) C d_M_lent_13 rfl rfl 3 rfl ?_
    refine g_i2l (pc1 := 15) C d_M_lent_14 rfl ?_
    refine g_lconst (pc1 := 16) (v := (0 : Int64)) C d_M_lent_15 rfl lc_0 ?_
    refine g_ldc2 (pc1 := 19) (v := (2 : Int64)) C d_M_lent_16 rfl kw_179 ?_
    obtain ⟨r2, hr2, hF⟩ := bnd_some hF
    refine g_callSI (pc1 := 22) (As := [.long (x3.toInt64), .long (0 : Int64), .long (2 : Int64)]) (rest := []) C 3 (c_M_in l (x3.toInt64) (0 : Int64) (2 : Int64) r2 hr2) s_M_in kw_173 rfl ⟨Nat.le_of_ble_eq_true rfl, Nat.le_of_ble_eq_true rfl⟩ ⟨rfl, rfl⟩ d_M_lent_19 rfl rfl (Nat.le_of_ble_eq_true rfl) ?_
    refine g_if_ne (pc1 := 25) C 30 d_M_lent_22 rfl (by decide) (fun c1 => ?_) (fun c1 => ?_)
    · replace hF := ite_f hF c1
      refine g_iconst (pc1 := 31) (v := (0 : Int32)) C d_M_lent_30 rfl ic_0 ?_
      refine g_istore (pc1 := 33) (L1 := [(4, .int (0 : Int32)), (0, .ref (a 0)), (1, .int x1), (2, .int x2), (3, .int x3)]) C d_M_lent_31 rfl (by decide) rfl ?_
      refine g_iconst (pc1 := 34) (v := (0 : Int32)) C d_M_lent_33 rfl ic_0 ?_
      refine g_istore (pc1 := 36) (L1 := [(5, .int (0 : Int32)), (4, .int (0 : Int32)), (0, .ref (a 0)), (1, .int x1), (2, .int x2), (3, .int x3)]) C d_M_lent_34 rfl (by decide) rfl ?_
      refine g_iconst (pc1 := 37) (v := (0 : Int32)) C d_M_lent_36 rfl ic_0 ?_
      refine g_istore (pc1 := 39) (L1 := [(6, .int (0 : Int32)), (5, .int (0 : Int32)), (4, .int (0 : Int32)), (0, .ref (a 0)), (1, .int x1), (2, .int x2), (3, .int x3)]) C d_M_lent_37 rfl (by decide) rfl ?_
      refine g_iconst (pc1 := 40) (v := (0 : Int32)) C d_M_lent_39 rfl ic_0 ?_
      refine g_istore (pc1 := 42) (L1 := [(7, .int (0 : Int32)), (6, .int (0 : Int32)), (5, .int (0 : Int32)), (4, .int (0 : Int32)), (0, .ref (a 0)), (1, .int x1), (2, .int x2), (3, .int x3)]) C d_M_lent_40 rfl (by decide) rfl ?_
      exact g_sub [4, 5, 6, 7, 3, 2, 1, 0] rfl (p_M_lent_42 C hK hr hlk  (stI μ 0 0 (0 : Int32)) x1 x2 x3 (0 : Int32) (0 : Int32) (0 : Int32) (0 : Int32) hF)
    · replace hF := ite_t hF c1
      exact g_sub [0] rfl (p_M_lent_25 C hK hr hlk  (stI μ 0 0 (0 : Int32)) hF)
-- TentPegsModel.pence(III)I
set_option maxHeartbeats 4000000 in
set_option maxRecDepth 100000 in
theorem p_M_pence_25 {p : Program} {l : Launch} {e : Env} {s : State} {m : MethodId} {args : Array Value} {below : List Frame} {meth : Method} {c : Code} {D : va_G} {cs : Nat → ClassId} {a : Nat → Nat} {r : Int32} {μ1 : Mem} (C : Cx p s m args c b_M_pence 7 "TentPegsModel") (hK : va_K D classes (tys cs) s) (hr : meth.sig.returnType = (some .int)) (hlk : meth.locks = false)  (μ : Mem)  (hF : F_M_pence_25  μ = some (r, μ1)) : G p l e { frames := 4, cells := 0, slots := 0, locals := 93 } s m args below meth c (MQ below (Qi (AM a) D (WM a cs μ1) r) args s 0 0 (AM a)) D (AM a) 7 (WM a cs μ) 25 [(0, .ref (a 0))] [] := by
  unfold F_M_pence_25 at hF
  refine g_aload_n (pc1 := 26) C d_M_pence_25 rfl rfl 0 rfl ?_
  obtain ⟨⟨r1, m1⟩, hm1, hF⟩ := bnd_some hF
  refine g_callVI (pc1 := 29) (ws1 := WM a cs m1) (As := []) (rest := []) (b := a 0) C hK 0 (c_M_bad l D cs a μ  r1 m1 hm1) s_M_bad kw_182 0 rfl rfl rfl ⟨Nat.le_of_ble_eq_true rfl, Nat.le_of_ble_eq_true rfl⟩ ⟨rfl, rfl⟩ d_M_pence_26 rfl rfl (Nat.le_of_ble_eq_true rfl) ?_
  exact g_iret C hr hlk d_M_pence_29 (fst_of hF) (congrArg (WM a cs) (snd_of hF))
set_option maxHeartbeats 4000000 in
set_option maxRecDepth 100000 in
theorem p_M_pence_36 {p : Program} {l : Launch} {e : Env} {s : State} {m : MethodId} {args : Array Value} {below : List Frame} {meth : Method} {c : Code} {D : va_G} {cs : Nat → ClassId} {a : Nat → Nat} {r : Int32} {μ1 : Mem} (C : Cx p s m args c b_M_pence 7 "TentPegsModel") (hK : va_K D classes (tys cs) s) (hr : meth.sig.returnType = (some .int)) (hlk : meth.locks = false)  : ∀ (μ : Mem) (x1 : Int32) (x2 : Int32) (x3 : Int32) (x4 : Int32) (x5 : Int32), F_M_pence_36  μ x1 x2 x3 x4 x5 = some (r, μ1) → G p l e { frames := 4, cells := 0, slots := 0, locals := 93 } s m args below meth c (MQ below (Qi (AM a) D (WM a cs μ1) r) args s 0 0 (AM a)) D (AM a) 7 (WM a cs μ) 36 [(0, .ref (a 0)), (1, .int x1), (2, .int x2), (3, .int x3), (4, .int x4), (5, .int x5)] [] := by
  refine iter_ind (fun (K36 : Mem → Int32 → Int32 → Int32 → Int32 → Int32 → Option (Int32 × Mem)) => ∀ (μ : Mem) (x1 : Int32) (x2 : Int32) (x3 : Int32) (x4 : Int32) (x5 : Int32), K36 μ x1 x2 x3 x4 x5 = some (r, μ1) → G p l e { frames := 4, cells := 0, slots := 0, locals := 93 } s m args below meth c (MQ below (Qi (AM a) D (WM a cs μ1) r) args s 0 0 (AM a)) D (AM a) 7 (WM a cs μ) 36 [(0, .ref (a 0)), (1, .int x1), (2, .int x2), (3, .int x3), (4, .int x4), (5, .int x5)] []) ?_ ?_ NF
  · intro μ x1 x2 x3 x4 x5 hF
    exact none_no hF
  · intro K36 hK36 μ x1 x2 x3 x4 x5 hF
    unfold S_M_pence_36 at hF
    refine g_iload (pc1 := 38) C d_M_pence_36 rfl 5 rfl ?_
    refine g_aload_n (pc1 := 39) C d_M_pence_38 rfl rfl 0 rfl ?_
    refine get_WM_0_field (pc1 := 42) C hK kw_172 d_M_pence_39 rfl ?_
    refine g_iconst (pc1 := 43) (v := (0 : Int32)) C d_M_pence_42 rfl ic_0 ?_
    have hg := gd_some hF
    replace hF := hg.2
    refine g_iald (pc1 := 44) C hK 2 (f := (μ.1 2)) rfl hg.1 d_M_pence_43 rfl ?_
    refine g_icmp_ge (pc1 := 47) C 79 d_M_pence_44 rfl (by decide) (fun c1 => ?_) (fun c1 => ?_)
    · replace hF := ite_t hF c1
      refine g_iload (pc1 := 81) C d_M_pence_79 rfl 4 rfl ?_
      refine g_iload_n (pc1 := 82) C d_M_pence_81 rfl rfl 3 rfl ?_
      refine g_imul (pc1 := 83) C d_M_pence_82 rfl ?_
      refine g_aload_n (pc1 := 84) C d_M_pence_83 rfl rfl 0 rfl ?_
      refine get_WM_0_field (pc1 := 87) C hK kw_172 d_M_pence_84 rfl ?_
      refine g_iconst (pc1 := 88) (v := (1 : Int32)) C d_M_pence_87 rfl ic_1 ?_
      have hg := gd_some hF
      replace hF := hg.2
      refine g_iald (pc1 := 89) C hK 2 (f := (μ.1 2)) rfl hg.1 d_M_pence_88 rfl ?_
      obtain ⟨r1, hr1, hF⟩ := bnd_some hF
      refine g_callSI (pc1 := 92) (As := [.int ((μ.1 2) (1 : Int32).toNatClampNeg)]) (rest := [.int (x4 * x3)]) C 1 (c_M_bits l ((μ.1 2) (1 : Int32).toNatClampNeg) r1 hr1) s_M_bits kw_177 rfl ⟨Nat.le_of_ble_eq_true rfl, Nat.le_of_ble_eq_true rfl⟩ ⟨rfl, rfl⟩ d_M_pence_89 rfl rfl (Nat.le_of_ble_eq_true rfl) ?_
      refine g_imul (pc1 := 93) C d_M_pence_92 rfl ?_
      exact g_iret C hr hlk d_M_pence_93 (fst_of hF) (congrArg (WM a cs) (snd_of hF))
    · replace hF := ite_f hF c1
      refine g_aload_n (pc1 := 48) C d_M_pence_47 rfl rfl 0 rfl ?_
      refine g_iload (pc1 := 50) C d_M_pence_48 rfl 5 rfl ?_
      refine g_iload_n (pc1 := 51) C d_M_pence_50 rfl rfl 1 rfl ?_
      refine g_iload_n (pc1 := 52) C d_M_pence_51 rfl rfl 2 rfl ?_
      obtain ⟨r2, hr2, hF⟩ := bnd_some hF
      refine g_callVI (pc1 := 55) (ws1 := WM a cs μ) (As := [.int x5, .int x1, .int x2]) (rest := []) (b := a 0) C hK 3 (c_M_pullNow l D cs a μ x5 x1 x2 r2 hr2) s_M_pullNow kw_237 0 rfl rfl rfl ⟨Nat.le_of_ble_eq_true rfl, Nat.le_of_ble_eq_true rfl⟩ ⟨rfl, rfl⟩ d_M_pence_52 rfl rfl (Nat.le_of_ble_eq_true rfl) ?_
      refine g_istore (pc1 := 57) (L1 := [(6, .int r2), (0, .ref (a 0)), (1, .int x1), (2, .int x2), (3, .int x3), (4, .int x4), (5, .int x5)]) C d_M_pence_55 rfl (by decide) rfl ?_
      refine g_iload (pc1 := 59) C d_M_pence_57 rfl 0 rfl ?_
      refine g_iload (pc1 := 61) C d_M_pence_59 rfl 5 rfl ?_
      refine g_icmp_le (pc1 := 64) C 69 d_M_pence_61 rfl (by decide) (fun c1 => ?_) (fun c1 => ?_)
      · replace hF := ite_t hF c1
        refine g_iload (pc1 := 71) C d_M_pence_69 rfl 5 rfl ?_
        refine g_istore (pc1 := 73) (L1 := [(4, .int x4), (6, .int r2), (0, .ref (a 0)), (1, .int x1), (2, .int x2), (3, .int x3), (5, .int x5)]) C d_M_pence_71 rfl (by decide) rfl ?_
        refine g_iinc (pc1 := 76) (v := (x5 + (1 : Int32))) (L1 := [(5, .int (x5 + (1 : Int32))), (4, .int x4), (6, .int r2), (0, .ref (a 0)), (1, .int x1), (2, .int x2), (3, .int x3)]) C d_M_pence_73 rfl 6 rfl (by rw [ic_1]) (by decide) rfl ?_
        refine g_goto C 36 d_M_pence_76 (by decide) ?_
        exact g_sub [3, 4, 5, 6, 1, 0] rfl (hK36 μ x1 x2 x3 x4 (x5 + (1 : Int32)) hF)
      · replace hF := ite_f hF c1
        refine g_iload (pc1 := 66) C d_M_pence_64 rfl 0 rfl ?_
        refine g_goto C 71 d_M_pence_66 (by decide) ?_
        refine g_istore (pc1 := 73) (L1 := [(4, .int r2), (6, .int r2), (0, .ref (a 0)), (1, .int x1), (2, .int x2), (3, .int x3), (5, .int x5)]) C d_M_pence_71 rfl (by decide) rfl ?_
        refine g_iinc (pc1 := 76) (v := (x5 + (1 : Int32))) (L1 := [(5, .int (x5 + (1 : Int32))), (4, .int r2), (6, .int r2), (0, .ref (a 0)), (1, .int x1), (2, .int x2), (3, .int x3)]) C d_M_pence_73 rfl 6 rfl (by rw [ic_1]) (by decide) rfl ?_
        refine g_goto C 36 d_M_pence_76 (by decide) ?_
        exact g_sub [3, 4, 5, 6, 1, 0] rfl (hK36 μ x1 x2 x3 r2 (x5 + (1 : Int32)) hF)
set_option maxHeartbeats 4000000 in
set_option maxRecDepth 100000 in
theorem c_M_pence (l : Launch) (D : va_G) (cs : Nat → ClassId) (a : Nat → Nat) (μ : Mem) (x1 : Int32) (x2 : Int32) (x3 : Int32) (r : Int32) (μ1 : Mem) (hF : F_M_pence μ x1 x2 x3 = some (r, μ1)) : MetI l y_M_pence b_M_pence 7 (some .int) { frames := 4, cells := 0, slots := 0, locals := 93 } D cs (AM a) (WM a cs μ) [.ref (a 0), .int x1, .int x2, .int x3] r (WM a cs μ1) := by
  refine met_of rfl (by decide +kernel) (Nat.le_of_ble_eq_true rfl) (fun p e s m below meth c C hK hr hlk => ?_)
  unfold F_M_pence at hF
  show G p l e { frames := 4, cells := 0, slots := 0, locals := 93 } s m _ below meth c _ D (AM a) 7 (WM a cs μ) 0 [(0, .ref (a 0)), (1, .int x1), (2, .int x2), (3, .int x3)] []
  refine g_aload_n (pc1 := 1) C d_M_pence_0 rfl rfl 0 rfl ?_
  refine g_iconst (pc1 := 2) (v := (0 : Int32)) C d_M_pence_1 rfl ic_0 ?_
  refine put_WM_0_thrown (pc1 := 5) C hK kw_178 d_M_pence_2 rfl ?_
  refine g_iload_n (pc1 := 6) C d_M_pence_5 rfl rfl 1 rfl ?_
  refine g_iload_n (pc1 := 7) C d_M_pence_6 rfl rfl 2 rfl ?_
  obtain ⟨r1, hr1, hF⟩ := bnd_some hF
  refine g_callSI (pc1 := 10) (As := [.int x1, .int x2]) (rest := []) C 2 (c_M_noGust l x1 x2 r1 hr1) s_M_noGust kw_233 rfl ⟨Nat.le_of_ble_eq_true rfl, Nat.le_of_ble_eq_true rfl⟩ ⟨rfl, rfl⟩ d_M_pence_7 rfl rfl (Nat.le_of_ble_eq_true rfl) ?_
  refine g_if_ne (pc1 := 13) C 25 d_M_pence_10 rfl (by decide) (fun c1 => ?_) (fun c1 => ?_)
  · replace hF := ite_f hF c1
    exact g_sub [0] rfl (p_M_pence_25 C hK hr hlk  (stI μ 0 0 (0 : Int32)) hF)
  · replace hF := ite_t hF c1
    refine g_iload_n (pc1 := 14) C d_M_pence_13 rfl rfl 3 rfl ?_
    refine g_i2l (pc1 := 15) C d_M_pence_14 rfl ?_
    refine g_lconst (pc1 := 16) (v := (1 : Int64)) C d_M_pence_15 rfl lc_1 ?_
    refine g_ldc2 (pc1 := 19) (v := (20 : Int64)) C d_M_pence_16 rfl kw_190 ?_
    obtain ⟨r2, hr2, hF⟩ := bnd_some hF
    refine g_callSI (pc1 := 22) (As := [.long (x3.toInt64), .long (1 : Int64), .long (20 : Int64)]) (rest := []) C 3 (c_M_in l (x3.toInt64) (1 : Int64) (20 : Int64) r2 hr2) s_M_in kw_173 rfl ⟨Nat.le_of_ble_eq_true rfl, Nat.le_of_ble_eq_true rfl⟩ ⟨rfl, rfl⟩ d_M_pence_19 rfl rfl (Nat.le_of_ble_eq_true rfl) ?_
    refine g_if_ne (pc1 := 25) C 30 d_M_pence_22 rfl (by decide) (fun c1 => ?_) (fun c1 => ?_)
    · replace hF := ite_f hF c1
      refine g_iconst (pc1 := 31) (v := (1 : Int32)) C d_M_pence_30 rfl ic_1 ?_
      refine g_istore (pc1 := 33) (L1 := [(4, .int (1 : Int32)), (0, .ref (a 0)), (1, .int x1), (2, .int x2), (3, .int x3)]) C d_M_pence_31 rfl (by decide) rfl ?_
      refine g_iconst (pc1 := 34) (v := (0 : Int32)) C d_M_pence_33 rfl ic_0 ?_
      refine g_istore (pc1 := 36) (L1 := [(5, .int (0 : Int32)), (4, .int (1 : Int32)), (0, .ref (a 0)), (1, .int x1), (2, .int x2), (3, .int x3)]) C d_M_pence_34 rfl (by decide) rfl ?_
      exact g_sub [2, 3, 4, 5, 1, 0] rfl (p_M_pence_36 C hK hr hlk  (stI μ 0 0 (0 : Int32)) x1 x2 x3 (1 : Int32) (0 : Int32) hF)
    · replace hF := ite_t hF c1
      exact g_sub [0] rfl (p_M_pence_25 C hK hr hlk  (stI μ 0 0 (0 : Int32)) hF)
-- TentPegsModel.draws()J
set_option maxHeartbeats 4000000 in
set_option maxRecDepth 100000 in
theorem c_M_draws (l : Launch) (D : va_G) (cs : Nat → ClassId) (a : Nat → Nat) (μ : Mem)  (r : Int64) (μ1 : Mem) (hF : F_M_draws μ = some (r, μ1)) : MetL l y_M_draws b_M_draws 1 (some .long) { frames := 0, cells := 0, slots := 0, locals := 0 } D cs (AM a) (WM a cs μ) [.ref (a 0)] r (WM a cs μ1) := by
  refine met_of rfl (by decide +kernel) (Nat.le_of_ble_eq_true rfl) (fun p e s m below meth c C hK hr hlk => ?_)
  unfold F_M_draws at hF
  show G p l e { frames := 0, cells := 0, slots := 0, locals := 0 } s m _ below meth c _ D (AM a) 1 (WM a cs μ) 0 [(0, .ref (a 0))] []
  refine g_aload_n (pc1 := 1) C d_M_draws_0 rfl rfl 0 rfl ?_
  refine g_aload_n (pc1 := 2) C d_M_draws_1 rfl rfl 0 rfl ?_
  refine get_WM_0_drawn (pc1 := 5) C hK (v := (μ.2 20)) rfl kw_254 d_M_draws_2 rfl ?_
  refine g_ldc2 (pc1 := 8) (v := (1103515245 : Int64)) C d_M_draws_5 rfl kw_255 ?_
  refine g_lmul (pc1 := 9) C d_M_draws_8 rfl ?_
  refine g_ldc2 (pc1 := 12) (v := (12345 : Int64)) C d_M_draws_9 rfl kw_256 ?_
  refine g_ladd (pc1 := 13) C d_M_draws_12 rfl ?_
  refine g_ldc2 (pc1 := 16) (v := (2147483648 : Int64)) C d_M_draws_13 rfl kw_257 ?_
  refine g_lrem (pc1 := 17) C d_M_draws_16 rfl nzl_2147483648 ?_
  refine put_WM_0_drawn (pc1 := 20) C hK kw_254 d_M_draws_17 rfl ?_
  refine g_aload_n (pc1 := 21) C d_M_draws_20 rfl rfl 0 rfl ?_
  refine get_WM_0_drawn (pc1 := 24) C hK (v := ((((μ.2 20) * (1103515245 : Int64)) + (12345 : Int64)) - (((μ.2 20) * (1103515245 : Int64)) + (12345 : Int64)) / (2147483648 : Int64) * (2147483648 : Int64))) rfl kw_254 d_M_draws_21 rfl ?_
  refine g_ldc2 (pc1 := 27) (v := (65536 : Int64)) C d_M_draws_24 rfl kw_258 ?_
  refine g_ldiv (pc1 := 28) C d_M_draws_27 rfl nzl_65536 ?_
  exact g_lret C hr hlk d_M_draws_28 (fst_of hF) (congrArg (WM a cs) (snd_of hF))
-- TentPegsModel.nightOf(IIII)I
set_option maxHeartbeats 4000000 in
set_option maxRecDepth 100000 in
theorem p_M_nightOf_80 {p : Program} {l : Launch} {e : Env} {s : State} {m : MethodId} {args : Array Value} {below : List Frame} {meth : Method} {c : Code} {D : va_G} {cs : Nat → ClassId} {a : Nat → Nat} {r : Int32} {μ1 : Mem} (C : Cx p s m args c b_M_nightOf 8 "TentPegsModel") (hK : va_K D classes (tys cs) s) (hr : meth.sig.returnType = (some .int)) (hlk : meth.locks = false) (K22 : Mem → Int32 → Int32 → Int32 → Int32 → Int32 → Option (Int32 × Mem)) (hK22 : ∀ (μ : Mem) (x1 : Int32) (x2 : Int32) (x4 : Int32) (x5 : Int32) (x6 : Int32), K22 μ x1 x2 x4 x5 x6 = some (r, μ1) → G p l e { frames := 5, cells := 0, slots := 0, locals := 117 } s m args below meth c (MQ below (Qi (AM a) D (WM a cs μ1) r) args s 0 0 (AM a)) D (AM a) 8 (WM a cs μ) 22 [(0, .ref (a 0)), (1, .int x1), (2, .int x2), (4, .int x4), (5, .int x5), (6, .int x6)] []) (μ : Mem) (x1 : Int32) (x2 : Int32) (x4 : Int32) (x6 : Int32) (s0 : Int32) (hF : F_M_nightOf_80 K22 μ x1 x2 x4 x6 s0 = some (r, μ1)) : G p l e { frames := 5, cells := 0, slots := 0, locals := 117 } s m args below meth c (MQ below (Qi (AM a) D (WM a cs μ1) r) args s 0 0 (AM a)) D (AM a) 8 (WM a cs μ) 80 [(0, .ref (a 0)), (1, .int x1), (2, .int x2), (4, .int x4), (6, .int x6)] [.int s0] := by
  unfold F_M_nightOf_80 at hF
  refine g_istore (pc1 := 82) (L1 := [(5, .int s0), (0, .ref (a 0)), (1, .int x1), (2, .int x2), (4, .int x4), (6, .int x6)]) C d_M_nightOf_80 rfl (by decide) rfl ?_
  refine g_iload (pc1 := 84) C d_M_nightOf_82 rfl 5 rfl ?_
  refine g_iload_n (pc1 := 85) C d_M_nightOf_84 rfl rfl 2 rfl ?_
  refine g_icmp_ge (pc1 := 88) C 119 d_M_nightOf_85 rfl (by decide) (fun c1 => ?_) (fun c1 => ?_)
  · replace hF := ite_t hF c1
    refine g_iinc (pc1 := 122) (v := (x6 + (1 : Int32))) (L1 := [(6, .int (x6 + (1 : Int32))), (5, .int s0), (0, .ref (a 0)), (1, .int x1), (2, .int x2), (4, .int x4)]) C d_M_nightOf_119 rfl 5 rfl (by rw [ic_1]) (by decide) rfl ?_
    refine g_goto C 22 d_M_nightOf_122 (by decide) ?_
    exact g_sub [2, 3, 4, 5, 1, 0] rfl (hK22 μ x1 x2 x4 s0 (x6 + (1 : Int32)) hF)
  · replace hF := ite_f hF c1
    refine g_aload_n (pc1 := 89) C d_M_nightOf_88 rfl rfl 1 rfl ?_
    obtain ⟨⟨r1, m1⟩, hm1, hF⟩ := bnd_some hF
    refine g_callVL (pc1 := 92) (ws1 := WM a cs m1) (As := []) (rest := []) (b := a 0) C hK 0 (c_M_draws l D cs a μ  r1 m1 hm1) s_M_draws kw_260 0 rfl rfl rfl ⟨Nat.le_of_ble_eq_true rfl, Nat.le_of_ble_eq_true rfl⟩ ⟨rfl, rfl⟩ d_M_nightOf_89 rfl rfl (Nat.le_of_ble_eq_true rfl) ?_
    refine g_ldc2 (pc1 := 95) (v := (8 : Int64)) C d_M_nightOf_92 rfl kw_180 ?_
    refine g_lrem (pc1 := 96) C d_M_nightOf_95 rfl nzl_8 ?_
    refine g_l2i (pc1 := 97) C d_M_nightOf_96 rfl ?_
    refine g_istore (pc1 := 99) (L1 := [(7, .int ((r1 - r1 / (8 : Int64) * (8 : Int64)).toInt32)), (5, .int s0), (0, .ref (a 0)), (1, .int x1), (2, .int x2), (4, .int x4), (6, .int x6)]) C d_M_nightOf_97 rfl (by decide) rfl ?_
    refine g_aload_n (pc1 := 100) C d_M_nightOf_99 rfl rfl 2 rfl ?_
    refine g_iload (pc1 := 102) C d_M_nightOf_100 rfl 1 rfl ?_
    refine g_iload (pc1 := 104) C d_M_nightOf_102 rfl 0 rfl ?_
    refine g_aload_n (pc1 := 105) C d_M_nightOf_104 rfl rfl 2 rfl ?_
    obtain ⟨⟨r2, m2⟩, hm2, hF⟩ := bnd_some hF
    refine g_callVL (pc1 := 108) (ws1 := WM a cs m2) (As := []) (rest := [.int ((r1 - r1 / (8 : Int64) * (8 : Int64)).toInt32), .int s0, .ref (a 0)]) (b := a 0) C hK 0 (c_M_draws l D cs a m1  r2 m2 hm2) s_M_draws kw_260 0 rfl rfl rfl ⟨Nat.le_of_ble_eq_true rfl, Nat.le_of_ble_eq_true rfl⟩ ⟨rfl, rfl⟩ d_M_nightOf_105 rfl rfl (Nat.le_of_ble_eq_true rfl) ?_
    refine g_iload_n (pc1 := 109) C d_M_nightOf_108 rfl rfl 4 rfl ?_
    refine g_iconst (pc1 := 110) (v := (1 : Int32)) C d_M_nightOf_109 rfl ic_1 ?_
    refine g_iadd (pc1 := 111) C d_M_nightOf_110 rfl ?_
    refine g_i2l (pc1 := 112) C d_M_nightOf_111 rfl ?_
    by_cases h0 : ((x2 + (1 : Int32)).toInt64) = 0
    · exact none_no (ite_t hF h0)
    replace hF := ite_f hF h0
    refine g_lrem (pc1 := 113) C d_M_nightOf_112 rfl h0 ?_
    refine g_l2i (pc1 := 114) C d_M_nightOf_113 rfl ?_
    obtain ⟨⟨r3, m3⟩, hm3, hF⟩ := bnd_some hF
    refine g_callVI (pc1 := 117) (ws1 := WM a cs m3) (As := [.int s0, .int ((r1 - r1 / (8 : Int64) * (8 : Int64)).toInt32), .int ((r2 - r2 / ((x2 + (1 : Int32)).toInt64) * ((x2 + (1 : Int32)).toInt64)).toInt32)]) (rest := []) (b := a 0) C hK 3 (c_M_behind l D cs a m2 s0 ((r1 - r1 / (8 : Int64) * (8 : Int64)).toInt32) ((r2 - r2 / ((x2 + (1 : Int32)).toInt64) * ((x2 + (1 : Int32)).toInt64)).toInt32) r3 m3 hm3) s_M_behind kw_236 0 rfl rfl rfl ⟨Nat.le_of_ble_eq_true rfl, Nat.le_of_ble_eq_true rfl⟩ ⟨rfl, rfl⟩ d_M_nightOf_114 rfl rfl (Nat.le_of_ble_eq_true rfl) ?_
    refine g_istore (pc1 := 119) (L1 := [(5, .int r3), (7, .int ((r1 - r1 / (8 : Int64) * (8 : Int64)).toInt32)), (0, .ref (a 0)), (1, .int x1), (2, .int x2), (4, .int x4), (6, .int x6)]) C d_M_nightOf_117 rfl (by decide) rfl ?_
    refine g_iinc (pc1 := 122) (v := (x6 + (1 : Int32))) (L1 := [(6, .int (x6 + (1 : Int32))), (5, .int r3), (7, .int ((r1 - r1 / (8 : Int64) * (8 : Int64)).toInt32)), (0, .ref (a 0)), (1, .int x1), (2, .int x2), (4, .int x4)]) C d_M_nightOf_119 rfl 6 rfl (by rw [ic_1]) (by decide) rfl ?_
    refine g_goto C 22 d_M_nightOf_122 (by decide) ?_
    exact g_sub [3, 4, 5, 6, 1, 0] rfl (hK22 m3 x1 x2 x4 r3 (x6 + (1 : Int32)) hF)
set_option maxHeartbeats 4000000 in
set_option maxRecDepth 100000 in
theorem p_M_nightOf_55 {p : Program} {l : Launch} {e : Env} {s : State} {m : MethodId} {args : Array Value} {below : List Frame} {meth : Method} {c : Code} {D : va_G} {cs : Nat → ClassId} {a : Nat → Nat} {r : Int32} {μ1 : Mem} (C : Cx p s m args c b_M_nightOf 8 "TentPegsModel") (hK : va_K D classes (tys cs) s) (hr : meth.sig.returnType = (some .int)) (hlk : meth.locks = false) (K22 : Mem → Int32 → Int32 → Int32 → Int32 → Int32 → Option (Int32 × Mem)) (hK22 : ∀ (μ : Mem) (x1 : Int32) (x2 : Int32) (x4 : Int32) (x5 : Int32) (x6 : Int32), K22 μ x1 x2 x4 x5 x6 = some (r, μ1) → G p l e { frames := 5, cells := 0, slots := 0, locals := 117 } s m args below meth c (MQ below (Qi (AM a) D (WM a cs μ1) r) args s 0 0 (AM a)) D (AM a) 8 (WM a cs μ) 22 [(0, .ref (a 0)), (1, .int x1), (2, .int x2), (4, .int x4), (5, .int x5), (6, .int x6)] []) (μ : Mem) (x1 : Int32) (x2 : Int32) (x4 : Int32) (x5 : Int32) (x6 : Int32) (s0 : Int32) (hF : F_M_nightOf_55 K22 μ x1 x2 x4 x5 x6 s0 = some (r, μ1)) : G p l e { frames := 5, cells := 0, slots := 0, locals := 117 } s m args below meth c (MQ below (Qi (AM a) D (WM a cs μ1) r) args s 0 0 (AM a)) D (AM a) 8 (WM a cs μ) 55 [(0, .ref (a 0)), (1, .int x1), (2, .int x2), (4, .int x4), (5, .int x5), (6, .int x6)] [.int s0, .ref (a 0)] := by
  unfold F_M_nightOf_55 at hF
  refine put_WM_0_lostBehind (pc1 := 58) C hK kw_259 d_M_nightOf_55 rfl ?_
  refine g_iload (pc1 := 60) C d_M_nightOf_58 rfl 5 rfl ?_
  refine g_iload (pc1 := 62) C d_M_nightOf_60 rfl 3 rfl ?_
  refine g_icmp_ne (pc1 := 65) C 78 d_M_nightOf_62 rfl (by decide) (fun c1 => ?_) (fun c1 => ?_)
  · replace hF := ite_f hF c1
    refine g_iload (pc1 := 80) C d_M_nightOf_78 rfl 4 rfl ?_
    exact g_sub [0, 1, 2, 3, 5] rfl (p_M_nightOf_80 C hK hr hlk K22 hK22 (stI μ 0 21 s0) x1 x2 x4 x6 x5 hF)
  · replace hF := ite_t hF c1
    refine g_iconst (pc1 := 66) (v := (1 : Int32)) C d_M_nightOf_65 rfl ic_1 ?_
    refine g_aload_n (pc1 := 67) C d_M_nightOf_66 rfl rfl 0 rfl ?_
    refine get_WM_0_field (pc1 := 70) C hK kw_172 d_M_nightOf_67 rfl ?_
    refine g_iconst (pc1 := 71) (v := (0 : Int32)) C d_M_nightOf_70 rfl ic_0 ?_
    have hg := gd_some hF
    replace hF := hg.2
    refine g_iald (pc1 := 72) C hK 2 (f := (μ.1 2)) rfl hg.1 d_M_nightOf_71 rfl ?_
    refine g_ishl (pc1 := 73) C d_M_nightOf_72 rfl ?_
    refine g_iconst (pc1 := 74) (v := (1 : Int32)) C d_M_nightOf_73 rfl ic_1 ?_
    refine g_isub (pc1 := 75) C d_M_nightOf_74 rfl ?_
    refine g_goto C 80 d_M_nightOf_75 (by decide) ?_
    exact g_sub [0, 1, 2, 3, 5] rfl (p_M_nightOf_80 C hK hr hlk K22 hK22 (stI μ 0 21 s0) x1 x2 x4 x6 (((1 : Int32) <<< (((μ.1 2) (0 : Int32).toNatClampNeg) &&& 31)) - (1 : Int32)) hF)
set_option maxHeartbeats 4000000 in
set_option maxRecDepth 100000 in
theorem p_M_nightOf_51 {p : Program} {l : Launch} {e : Env} {s : State} {m : MethodId} {args : Array Value} {below : List Frame} {meth : Method} {c : Code} {D : va_G} {cs : Nat → ClassId} {a : Nat → Nat} {r : Int32} {μ1 : Mem} (C : Cx p s m args c b_M_nightOf 8 "TentPegsModel") (hK : va_K D classes (tys cs) s) (hr : meth.sig.returnType = (some .int)) (hlk : meth.locks = false) (K22 : Mem → Int32 → Int32 → Int32 → Int32 → Int32 → Option (Int32 × Mem)) (hK22 : ∀ (μ : Mem) (x1 : Int32) (x2 : Int32) (x4 : Int32) (x5 : Int32) (x6 : Int32), K22 μ x1 x2 x4 x5 x6 = some (r, μ1) → G p l e { frames := 5, cells := 0, slots := 0, locals := 117 } s m args below meth c (MQ below (Qi (AM a) D (WM a cs μ1) r) args s 0 0 (AM a)) D (AM a) 8 (WM a cs μ) 22 [(0, .ref (a 0)), (1, .int x1), (2, .int x2), (4, .int x4), (5, .int x5), (6, .int x6)] []) (μ : Mem) (x1 : Int32) (x2 : Int32) (x4 : Int32) (x5 : Int32) (x6 : Int32) (hF : F_M_nightOf_51 K22 μ x1 x2 x4 x5 x6 = some (r, μ1)) : G p l e { frames := 5, cells := 0, slots := 0, locals := 117 } s m args below meth c (MQ below (Qi (AM a) D (WM a cs μ1) r) args s 0 0 (AM a)) D (AM a) 8 (WM a cs μ) 51 [(0, .ref (a 0)), (1, .int x1), (2, .int x2), (4, .int x4), (5, .int x5), (6, .int x6)] [.ref (a 0)] := by
  unfold F_M_nightOf_51 at hF
  refine g_aload_n (pc1 := 52) C d_M_nightOf_51 rfl rfl 0 rfl ?_
  refine get_WM_0_lostBehind (pc1 := 55) C hK (v := (μ.1 0 21)) rfl kw_259 d_M_nightOf_52 rfl ?_
  exact g_sub [0, 1, 2, 3, 4, 5] rfl (p_M_nightOf_55 C hK hr hlk K22 hK22 μ x1 x2 x4 x5 x6 (μ.1 0 21) hF)
set_option maxHeartbeats 4000000 in
set_option maxRecDepth 100000 in
theorem p_M_nightOf_22 {p : Program} {l : Launch} {e : Env} {s : State} {m : MethodId} {args : Array Value} {below : List Frame} {meth : Method} {c : Code} {D : va_G} {cs : Nat → ClassId} {a : Nat → Nat} {r : Int32} {μ1 : Mem} (C : Cx p s m args c b_M_nightOf 8 "TentPegsModel") (hK : va_K D classes (tys cs) s) (hr : meth.sig.returnType = (some .int)) (hlk : meth.locks = false)  : ∀ (μ : Mem) (x1 : Int32) (x2 : Int32) (x4 : Int32) (x5 : Int32) (x6 : Int32), F_M_nightOf_22  μ x1 x2 x4 x5 x6 = some (r, μ1) → G p l e { frames := 5, cells := 0, slots := 0, locals := 117 } s m args below meth c (MQ below (Qi (AM a) D (WM a cs μ1) r) args s 0 0 (AM a)) D (AM a) 8 (WM a cs μ) 22 [(0, .ref (a 0)), (1, .int x1), (2, .int x2), (4, .int x4), (5, .int x5), (6, .int x6)] [] := by
  refine iter_ind (fun (K22 : Mem → Int32 → Int32 → Int32 → Int32 → Int32 → Option (Int32 × Mem)) => ∀ (μ : Mem) (x1 : Int32) (x2 : Int32) (x4 : Int32) (x5 : Int32) (x6 : Int32), K22 μ x1 x2 x4 x5 x6 = some (r, μ1) → G p l e { frames := 5, cells := 0, slots := 0, locals := 117 } s m args below meth c (MQ below (Qi (AM a) D (WM a cs μ1) r) args s 0 0 (AM a)) D (AM a) 8 (WM a cs μ) 22 [(0, .ref (a 0)), (1, .int x1), (2, .int x2), (4, .int x4), (5, .int x5), (6, .int x6)] []) ?_ ?_ NF
  · intro μ x1 x2 x4 x5 x6 hF
    exact none_no hF
  · intro K22 hK22 μ x1 x2 x4 x5 x6 hF
    unfold S_M_nightOf_22 at hF
    refine g_iload (pc1 := 24) C d_M_nightOf_22 rfl 5 rfl ?_
    refine g_iload_n (pc1 := 25) C d_M_nightOf_24 rfl rfl 1 rfl ?_
    refine g_icmp_gt (pc1 := 28) C 125 d_M_nightOf_25 rfl (by decide) (fun c1 => ?_) (fun c1 => ?_)
    · replace hF := ite_t hF c1
      refine g_iload (pc1 := 127) C d_M_nightOf_125 rfl 4 rfl ?_
      exact g_iret C hr hlk d_M_nightOf_127 (fst_of hF) (congrArg (WM a cs) (snd_of hF))
    · replace hF := ite_f hF c1
      refine g_aload_n (pc1 := 29) C d_M_nightOf_28 rfl rfl 0 rfl ?_
      refine g_aload_n (pc1 := 30) C d_M_nightOf_29 rfl rfl 0 rfl ?_
      refine get_WM_0_lostBehind (pc1 := 33) C hK (v := (μ.1 0 21)) rfl kw_259 d_M_nightOf_30 rfl ?_
      refine g_iconst (pc1 := 34) (v := (-1 : Int32)) C d_M_nightOf_33 rfl ic_m1 ?_
      refine g_icmp_ne (pc1 := 37) C 51 d_M_nightOf_34 rfl (by decide) (fun c1 => ?_) (fun c1 => ?_)
      · replace hF := ite_f hF c1
        exact g_sub [0, 1, 2, 3, 4, 5] rfl (p_M_nightOf_51 C hK hr hlk K22 hK22 μ x1 x2 x4 x5 x6 hF)
      · replace hF := ite_t hF c1
        refine g_iload (pc1 := 39) C d_M_nightOf_37 rfl 4 rfl ?_
        obtain ⟨r1, hr1, hF⟩ := bnd_some hF
        refine g_callSI (pc1 := 42) (As := [.int x5]) (rest := [.ref (a 0)]) C 1 (c_M_bits l x5 r1 hr1) s_M_bits kw_177 rfl ⟨Nat.le_of_ble_eq_true rfl, Nat.le_of_ble_eq_true rfl⟩ ⟨rfl, rfl⟩ d_M_nightOf_39 rfl rfl (Nat.le_of_ble_eq_true rfl) ?_
        refine g_iconst (pc1 := 43) (v := (2 : Int32)) C d_M_nightOf_42 rfl ic_2 ?_
        refine g_icmp_ge (pc1 := 46) C 51 d_M_nightOf_43 rfl (by decide) (fun c1 => ?_) (fun c1 => ?_)
        · replace hF := ite_t hF c1
          exact g_sub [0, 1, 2, 3, 4, 5] rfl (p_M_nightOf_51 C hK hr hlk K22 hK22 μ x1 x2 x4 x5 x6 hF)
        · replace hF := ite_f hF c1
          refine g_iload (pc1 := 48) C d_M_nightOf_46 rfl 5 rfl ?_
          refine g_goto C 55 d_M_nightOf_48 (by decide) ?_
          exact g_sub [0, 1, 2, 3, 4, 5] rfl (p_M_nightOf_55 C hK hr hlk K22 hK22 μ x1 x2 x4 x5 x6 x6 hF)
set_option maxHeartbeats 4000000 in
set_option maxRecDepth 100000 in
theorem c_M_nightOf (l : Launch) (D : va_G) (cs : Nat → ClassId) (a : Nat → Nat) (μ : Mem) (x1 : Int32) (x2 : Int32) (x3 : Int32) (x4 : Int32) (r : Int32) (μ1 : Mem) (hF : F_M_nightOf μ x1 x2 x3 x4 = some (r, μ1)) : MetI l y_M_nightOf b_M_nightOf 8 (some .int) { frames := 5, cells := 0, slots := 0, locals := 117 } D cs (AM a) (WM a cs μ) [.ref (a 0), .int x1, .int x2, .int x3, .int x4] r (WM a cs μ1) := by
  refine met_of rfl (by decide +kernel) (Nat.le_of_ble_eq_true rfl) (fun p e s m below meth c C hK hr hlk => ?_)
  unfold F_M_nightOf at hF
  show G p l e { frames := 5, cells := 0, slots := 0, locals := 117 } s m _ below meth c _ D (AM a) 8 (WM a cs μ) 0 [(0, .ref (a 0)), (1, .int x1), (2, .int x2), (3, .int x3), (4, .int x4)] []
  refine g_aload_n (pc1 := 1) C d_M_nightOf_0 rfl rfl 0 rfl ?_
  refine get_WM_0_field (pc1 := 4) C hK kw_172 d_M_nightOf_1 rfl ?_
  refine g_iconst (pc1 := 5) (v := (1 : Int32)) C d_M_nightOf_4 rfl ic_1 ?_
  have hg := gd_some hF
  replace hF := hg.2
  refine g_iald (pc1 := 6) C hK 2 (f := (μ.1 2)) rfl hg.1 d_M_nightOf_5 rfl ?_
  refine g_istore (pc1 := 8) (L1 := [(5, .int ((μ.1 2) (1 : Int32).toNatClampNeg)), (0, .ref (a 0)), (1, .int x1), (2, .int x2), (3, .int x3), (4, .int x4)]) C d_M_nightOf_6 rfl (by decide) rfl ?_
  refine g_aload_n (pc1 := 9) C d_M_nightOf_8 rfl rfl 1 rfl ?_
  refine g_iload_n (pc1 := 10) C d_M_nightOf_9 rfl rfl 4 rfl ?_
  refine g_i2l (pc1 := 11) C d_M_nightOf_10 rfl ?_
  refine put_WM_0_drawn (pc1 := 14) C hK kw_254 d_M_nightOf_11 rfl ?_
  refine g_aload_n (pc1 := 15) C d_M_nightOf_14 rfl rfl 1 rfl ?_
  refine g_iconst (pc1 := 16) (v := (-1 : Int32)) C d_M_nightOf_15 rfl ic_m1 ?_
  refine put_WM_0_lostBehind (pc1 := 19) C hK kw_259 d_M_nightOf_16 rfl ?_
  refine g_iconst (pc1 := 20) (v := (0 : Int32)) C d_M_nightOf_19 rfl ic_0 ?_
  refine g_istore (pc1 := 22) (L1 := [(6, .int (0 : Int32)), (5, .int ((μ.1 2) (1 : Int32).toNatClampNeg)), (0, .ref (a 0)), (1, .int x1), (2, .int x2), (3, .int x3), (4, .int x4)]) C d_M_nightOf_20 rfl (by decide) rfl ?_
  exact g_sub [2, 3, 4, 6, 1, 0] rfl (p_M_nightOf_22 C hK hr hlk  (stI (stL μ 20 (x3.toInt64)) 0 21 (-1 : Int32)) x1 x2 x4 ((μ.1 2) (1 : Int32).toNatClampNeg) (0 : Int32) hF)
-- TentPegsModel.noNight(III)Z
set_option maxHeartbeats 4000000 in
set_option maxRecDepth 100000 in
theorem c_M_noNight (l : Launch) (x0 : Int32) (x1 : Int32) (x2 : Int32) (r : Int32) (hF : F_M_noNight x0 x1 x2 = some r) : SetI l y_M_noNight b_M_noNight 3 (some .boolean) { frames := 1, cells := 0, slots := 0, locals := 25 } [.int x0, .int x1, .int x2] r := by
  refine met_ofS rfl (by decide +kernel) (Nat.le_of_ble_eq_true rfl) (fun p e s m below meth c C hr hlk => ?_)
  unfold F_M_noNight at hF
  show G p l e { frames := 1, cells := 0, slots := 0, locals := 25 } s m _ below meth c _ (fun _ => 0, fun _ _ => 0) (fun _ => False) 3 [] 0 [(0, .int x0), (1, .int x1), (2, .int x2)] []
  refine g_iload_n (pc1 := 1) C d_M_noNight_0 rfl rfl 0 rfl ?_
  refine g_i2l (pc1 := 2) C d_M_noNight_1 rfl ?_
  refine g_lconst (pc1 := 3) (v := (0 : Int64)) C d_M_noNight_2 rfl lc_0 ?_
  refine g_ldc2 (pc1 := 6) (v := (60 : Int64)) C d_M_noNight_3 rfl kw_176 ?_
  obtain ⟨r1, hr1, hF⟩ := bnd_some hF
  refine g_callSI (pc1 := 9) (As := [.long (x0.toInt64), .long (0 : Int64), .long (60 : Int64)]) (rest := []) C 3 (c_M_in l (x0.toInt64) (0 : Int64) (60 : Int64) r1 hr1) s_M_in kw_173 rfl ⟨Nat.le_of_ble_eq_true rfl, Nat.le_of_ble_eq_true rfl⟩ ⟨rfl, rfl⟩ d_M_noNight_6 rfl rfl (Nat.le_of_ble_eq_true rfl) ?_
  refine g_if_eq (pc1 := 12) C 36 d_M_noNight_9 rfl (by decide) (fun c1 => ?_) (fun c1 => ?_)
  · replace hF := ite_t hF c1
    refine g_iconst (pc1 := 37) (v := (1 : Int32)) C d_M_noNight_36 rfl ic_1 ?_
    refine g_goto C 41 d_M_noNight_37 (by decide) ?_
    exact g_zret C hr hlk rfl d_M_noNight_41 (Option.some.inj hF) rfl
  · replace hF := ite_f hF c1
    refine g_iload_n (pc1 := 13) C d_M_noNight_12 rfl rfl 1 rfl ?_
    refine g_i2l (pc1 := 14) C d_M_noNight_13 rfl ?_
    refine g_lconst (pc1 := 15) (v := (0 : Int64)) C d_M_noNight_14 rfl lc_0 ?_
    refine g_ldc2 (pc1 := 18) (v := (60 : Int64)) C d_M_noNight_15 rfl kw_176 ?_
    obtain ⟨r2, hr2, hF⟩ := bnd_some hF
    refine g_callSI (pc1 := 21) (As := [.long (x1.toInt64), .long (0 : Int64), .long (60 : Int64)]) (rest := []) C 3 (c_M_in l (x1.toInt64) (0 : Int64) (60 : Int64) r2 hr2) s_M_in kw_173 rfl ⟨Nat.le_of_ble_eq_true rfl, Nat.le_of_ble_eq_true rfl⟩ ⟨rfl, rfl⟩ d_M_noNight_18 rfl rfl (Nat.le_of_ble_eq_true rfl) ?_
    refine g_if_eq (pc1 := 24) C 36 d_M_noNight_21 rfl (by decide) (fun c1 => ?_) (fun c1 => ?_)
    · replace hF := ite_t hF c1
      refine g_iconst (pc1 := 37) (v := (1 : Int32)) C d_M_noNight_36 rfl ic_1 ?_
      refine g_goto C 41 d_M_noNight_37 (by decide) ?_
      exact g_zret C hr hlk rfl d_M_noNight_41 (Option.some.inj hF) rfl
    · replace hF := ite_f hF c1
      refine g_iload_n (pc1 := 25) C d_M_noNight_24 rfl rfl 2 rfl ?_
      refine g_i2l (pc1 := 26) C d_M_noNight_25 rfl ?_
      refine g_lconst (pc1 := 27) (v := (0 : Int64)) C d_M_noNight_26 rfl lc_0 ?_
      refine g_ldc2 (pc1 := 30) (v := (999999 : Int64)) C d_M_noNight_27 rfl kw_261 ?_
      obtain ⟨r3, hr3, hF⟩ := bnd_some hF
      refine g_callSI (pc1 := 33) (As := [.long (x2.toInt64), .long (0 : Int64), .long (999999 : Int64)]) (rest := []) C 3 (c_M_in l (x2.toInt64) (0 : Int64) (999999 : Int64) r3 hr3) s_M_in kw_173 rfl ⟨Nat.le_of_ble_eq_true rfl, Nat.le_of_ble_eq_true rfl⟩ ⟨rfl, rfl⟩ d_M_noNight_30 rfl rfl (Nat.le_of_ble_eq_true rfl) ?_
      refine g_if_ne (pc1 := 36) C 40 d_M_noNight_33 rfl (by decide) (fun c1 => ?_) (fun c1 => ?_)
      · replace hF := ite_f hF c1
        refine g_iconst (pc1 := 41) (v := (0 : Int32)) C d_M_noNight_40 rfl ic_0 ?_
        exact g_zret C hr hlk rfl d_M_noNight_41 (Option.some.inj hF) rfl
      · replace hF := ite_t hF c1
        refine g_iconst (pc1 := 37) (v := (1 : Int32)) C d_M_noNight_36 rfl ic_1 ?_
        refine g_goto C 41 d_M_noNight_37 (by decide) ?_
        exact g_zret C hr hlk rfl d_M_noNight_41 (Option.some.inj hF) rfl
-- TentPegsModel.night(IIII)I
set_option maxHeartbeats 4000000 in
set_option maxRecDepth 100000 in
theorem p_M_night_25 {p : Program} {l : Launch} {e : Env} {s : State} {m : MethodId} {args : Array Value} {below : List Frame} {meth : Method} {c : Code} {D : va_G} {cs : Nat → ClassId} {a : Nat → Nat} {r : Int32} {μ1 : Mem} (C : Cx p s m args c b_M_night 6 "TentPegsModel") (hK : va_K D classes (tys cs) s) (hr : meth.sig.returnType = (some .int)) (hlk : meth.locks = false)  (μ : Mem)  (hF : F_M_night_25  μ = some (r, μ1)) : G p l e { frames := 6, cells := 0, slots := 0, locals := 144 } s m args below meth c (MQ below (Qi (AM a) D (WM a cs μ1) r) args s 0 0 (AM a)) D (AM a) 6 (WM a cs μ) 25 [(0, .ref (a 0))] [] := by
  unfold F_M_night_25 at hF
  refine g_aload_n (pc1 := 26) C d_M_night_25 rfl rfl 0 rfl ?_
  obtain ⟨⟨r1, m1⟩, hm1, hF⟩ := bnd_some hF
  refine g_callVI (pc1 := 29) (ws1 := WM a cs m1) (As := []) (rest := []) (b := a 0) C hK 0 (c_M_badTen l D cs a μ  r1 m1 hm1) s_M_badTen kw_238 0 rfl rfl rfl ⟨Nat.le_of_ble_eq_true rfl, Nat.le_of_ble_eq_true rfl⟩ ⟨rfl, rfl⟩ d_M_night_26 rfl rfl (Nat.le_of_ble_eq_true rfl) ?_
  exact g_iret C hr hlk d_M_night_29 (fst_of hF) (congrArg (WM a cs) (snd_of hF))
set_option maxHeartbeats 4000000 in
set_option maxRecDepth 100000 in
theorem c_M_night (l : Launch) (D : va_G) (cs : Nat → ClassId) (a : Nat → Nat) (μ : Mem) (x1 : Int32) (x2 : Int32) (x3 : Int32) (x4 : Int32) (r : Int32) (μ1 : Mem) (hF : F_M_night μ x1 x2 x3 x4 = some (r, μ1)) : MetI l y_M_night b_M_night 6 (some .int) { frames := 6, cells := 0, slots := 0, locals := 144 } D cs (AM a) (WM a cs μ) [.ref (a 0), .int x1, .int x2, .int x3, .int x4] r (WM a cs μ1) := by
  refine met_of rfl (by decide +kernel) (Nat.le_of_ble_eq_true rfl) (fun p e s m below meth c C hK hr hlk => ?_)
  unfold F_M_night at hF
  show G p l e { frames := 6, cells := 0, slots := 0, locals := 144 } s m _ below meth c _ D (AM a) 6 (WM a cs μ) 0 [(0, .ref (a 0)), (1, .int x1), (2, .int x2), (3, .int x3), (4, .int x4)] []
  refine g_aload_n (pc1 := 1) C d_M_night_0 rfl rfl 0 rfl ?_
  refine g_iconst (pc1 := 2) (v := (0 : Int32)) C d_M_night_1 rfl ic_0 ?_
  refine put_WM_0_thrown (pc1 := 5) C hK kw_178 d_M_night_2 rfl ?_
  refine g_iload_n (pc1 := 6) C d_M_night_5 rfl rfl 1 rfl ?_
  refine g_iload_n (pc1 := 7) C d_M_night_6 rfl rfl 2 rfl ?_
  refine g_iload_n (pc1 := 8) C d_M_night_7 rfl rfl 3 rfl ?_
  obtain ⟨r1, hr1, hF⟩ := bnd_some hF
  refine g_callSI (pc1 := 11) (As := [.int x1, .int x2, .int x3]) (rest := []) C 3 (c_M_noNight l x1 x2 x3 r1 hr1) s_M_noNight kw_262 rfl ⟨Nat.le_of_ble_eq_true rfl, Nat.le_of_ble_eq_true rfl⟩ ⟨rfl, rfl⟩ d_M_night_8 rfl rfl (Nat.le_of_ble_eq_true rfl) ?_
  refine g_if_ne (pc1 := 14) C 25 d_M_night_11 rfl (by decide) (fun c1 => ?_) (fun c1 => ?_)
  · replace hF := ite_f hF c1
    exact g_sub [0] rfl (p_M_night_25 C hK hr hlk  (stI μ 0 0 (0 : Int32)) hF)
  · replace hF := ite_t hF c1
    refine g_iload (pc1 := 16) C d_M_night_14 rfl 4 rfl ?_
    refine g_i2l (pc1 := 17) C d_M_night_16 rfl ?_
    refine g_lconst (pc1 := 18) (v := (0 : Int64)) C d_M_night_17 rfl lc_0 ?_
    refine g_lconst (pc1 := 19) (v := (1 : Int64)) C d_M_night_18 rfl lc_1 ?_
    obtain ⟨r2, hr2, hF⟩ := bnd_some hF
    refine g_callSI (pc1 := 22) (As := [.long (x4.toInt64), .long (0 : Int64), .long (1 : Int64)]) (rest := []) C 3 (c_M_in l (x4.toInt64) (0 : Int64) (1 : Int64) r2 hr2) s_M_in kw_173 rfl ⟨Nat.le_of_ble_eq_true rfl, Nat.le_of_ble_eq_true rfl⟩ ⟨rfl, rfl⟩ d_M_night_19 rfl rfl (Nat.le_of_ble_eq_true rfl) ?_
    refine g_if_ne (pc1 := 25) C 30 d_M_night_22 rfl (by decide) (fun c1 => ?_) (fun c1 => ?_)
    · replace hF := ite_f hF c1
      refine g_aload_n (pc1 := 31) C d_M_night_30 rfl rfl 0 rfl ?_
      refine g_iload_n (pc1 := 32) C d_M_night_31 rfl rfl 1 rfl ?_
      refine g_iload_n (pc1 := 33) C d_M_night_32 rfl rfl 2 rfl ?_
      refine g_iload_n (pc1 := 34) C d_M_night_33 rfl rfl 3 rfl ?_
      refine g_iconst (pc1 := 35) (v := (-1 : Int32)) C d_M_night_34 rfl ic_m1 ?_
      obtain ⟨⟨r3, m3⟩, hm3, hF⟩ := bnd_some hF
      refine g_callVI (pc1 := 38) (ws1 := WM a cs m3) (As := [.int x1, .int x2, .int x3, .int (-1 : Int32)]) (rest := []) (b := a 0) C hK 4 (c_M_nightOf l D cs a (stI μ 0 0 (0 : Int32)) x1 x2 x3 (-1 : Int32) r3 m3 hm3) s_M_nightOf kw_263 0 rfl rfl rfl ⟨Nat.le_of_ble_eq_true rfl, Nat.le_of_ble_eq_true rfl⟩ ⟨rfl, rfl⟩ d_M_night_35 rfl rfl (Nat.le_of_ble_eq_true rfl) ?_
      refine g_istore (pc1 := 40) (L1 := [(5, .int r3), (0, .ref (a 0)), (1, .int x1), (2, .int x2), (3, .int x3), (4, .int x4)]) C d_M_night_38 rfl (by decide) rfl ?_
      refine g_iload (pc1 := 42) C d_M_night_40 rfl 5 rfl ?_
      refine g_if_ne (pc1 := 45) C 52 d_M_night_42 rfl (by decide) (fun c1 => ?_) (fun c1 => ?_)
      · replace hF := ite_f hF c1
        refine g_iload (pc1 := 54) C d_M_night_52 rfl 0 rfl ?_
        obtain ⟨r4, hr4, hF⟩ := bnd_some hF
        refine g_callSI (pc1 := 57) (As := [.int r3]) (rest := []) C 1 (c_M_bits l r3 r4 hr4) s_M_bits kw_177 rfl ⟨Nat.le_of_ble_eq_true rfl, Nat.le_of_ble_eq_true rfl⟩ ⟨rfl, rfl⟩ d_M_night_54 rfl rfl (Nat.le_of_ble_eq_true rfl) ?_
        exact g_iret C hr hlk d_M_night_57 (fst_of hF) (congrArg (WM a cs) (snd_of hF))
      · replace hF := ite_t hF c1
        refine g_aload_n (pc1 := 46) C d_M_night_45 rfl rfl 1 rfl ?_
        refine get_WM_0_lostBehind (pc1 := 49) C hK (v := (m3.1 0 21)) rfl kw_259 d_M_night_46 rfl ?_
        refine g_goto C 57 d_M_night_49 (by decide) ?_
        exact g_iret C hr hlk d_M_night_57 (fst_of hF) (congrArg (WM a cs) (snd_of hF))
    · replace hF := ite_t hF c1
      exact g_sub [0] rfl (p_M_night_25 C hK hr hlk  (stI μ 0 0 (0 : Int32)) hF)
