-- TentPegsModel.stand(IZ)I
set_option maxHeartbeats 4000000 in
set_option maxRecDepth 100000 in
theorem c_M_stand (l : Launch) (D : va_G) (cs : Nat → ClassId) (a : Nat → Nat) (μ : Mem) (x1 : Int32) (x2 : Int32) (r : Int32) (μ1 : Mem) (hF : F_M_stand μ x1 x2 = some (r, μ1)) : MetI l y_M_stand b_M_stand 3 (some .int) { frames := 2, cells := 0, slots := 0, locals := 46 } D cs (AM a) (WM a cs μ) [.ref (a 0), .int x1, .int x2] r (WM a cs μ1) := by
  refine met_of rfl (by decide +kernel) (Nat.le_of_ble_eq_true rfl) (fun p e s m below meth c C hK hr hlk => ?_)
  unfold F_M_stand at hF
  show G p l e { frames := 2, cells := 0, slots := 0, locals := 46 } s m _ below meth c _ D (AM a) 3 (WM a cs μ) 0 [(0, .ref (a 0)), (1, .int x1), (2, .int x2)] []
  refine g_aload_n (pc1 := 1) C d_M_stand_0 rfl rfl 0 rfl ?_
  refine g_iconst (pc1 := 2) (v := (0 : Int32)) C d_M_stand_1 rfl ic_0 ?_
  refine put_WM_0_thrown (pc1 := 5) C hK kw_178 d_M_stand_2 rfl ?_
  refine g_aload_n (pc1 := 6) C d_M_stand_5 rfl rfl 0 rfl ?_
  refine g_iload_n (pc1 := 7) C d_M_stand_6 rfl rfl 1 rfl ?_
  obtain ⟨r1, hr1, hF⟩ := bnd_some hF
  refine g_callVI (pc1 := 10) (ws1 := WM a cs (stI μ 0 0 (0 : Int32))) (As := [.int x1]) (rest := []) (b := a 0) C hK 1 (c_M_noPeg l D cs a (stI μ 0 0 (0 : Int32)) x1 r1 hr1) s_M_noPeg kw_183 0 rfl rfl rfl ⟨Nat.le_of_ble_eq_true rfl, Nat.le_of_ble_eq_true rfl⟩ ⟨rfl, rfl⟩ d_M_stand_7 rfl rfl (Nat.le_of_ble_eq_true rfl) ?_
  refine g_if_eq (pc1 := 13) C 18 d_M_stand_10 rfl (by decide) (fun c1 => ?_) (fun c1 => ?_)
  · replace hF := ite_t hF c1
    refine g_aload_n (pc1 := 19) C d_M_stand_18 rfl rfl 0 rfl ?_
    refine get_WM_0_field (pc1 := 22) C hK kw_172 d_M_stand_19 rfl ?_
    refine g_iconst (pc1 := 23) (v := (1 : Int32)) C d_M_stand_22 rfl ic_1 ?_
    have hg := gd_some hF
    replace hF := hg.2
    refine g_iald (pc1 := 24) C hK 2 (f := (μ.1 2)) rfl hg.1 d_M_stand_23 rfl ?_
    refine g_iload_n (pc1 := 25) C d_M_stand_24 rfl rfl 1 rfl ?_
    obtain ⟨r2, hr2, hF⟩ := bnd_some hF
    refine g_callSI (pc1 := 28) (As := [.int ((μ.1 2) (1 : Int32).toNatClampNeg), .int x1]) (rest := []) C 2 (c_M_has l ((μ.1 2) (1 : Int32).toNatClampNeg) x1 r2 hr2) s_M_has kw_188 rfl ⟨Nat.le_of_ble_eq_true rfl, Nat.le_of_ble_eq_true rfl⟩ ⟨rfl, rfl⟩ d_M_stand_25 rfl rfl (Nat.le_of_ble_eq_true rfl) ?_
    refine g_iload_n (pc1 := 29) C d_M_stand_28 rfl rfl 2 rfl ?_
    refine g_icmp_ne (pc1 := 32) C 37 d_M_stand_29 rfl (by decide) (fun c1 => ?_) (fun c1 => ?_)
    · replace hF := ite_f hF c1
      refine g_aload_n (pc1 := 38) C d_M_stand_37 rfl rfl 0 rfl ?_
      obtain ⟨m3, hm3, hF⟩ := bnd_some hF
      refine g_callVV (pc1 := 41) (ws1 := WM a cs m3) (As := []) (rest := []) (b := a 0) C hK 0 (c_M_keepStood l D cs a (stI μ 0 0 (0 : Int32))  m3 hm3) s_M_keepStood kw_235 0 rfl rfl rfl ⟨Nat.le_of_ble_eq_true rfl, Nat.le_of_ble_eq_true rfl⟩ ⟨rfl, rfl⟩ d_M_stand_38 rfl rfl (Nat.le_of_ble_eq_true rfl) ?_
      refine g_aload_n (pc1 := 42) C d_M_stand_41 rfl rfl 0 rfl ?_
      refine get_WM_0_field (pc1 := 45) C hK kw_172 d_M_stand_42 rfl ?_
      refine g_iconst (pc1 := 46) (v := (1 : Int32)) C d_M_stand_45 rfl ic_1 ?_
      refine g_dup2 (pc1 := 47) C d_M_stand_46 rfl rfl rfl ?_
      have hg := gd_some hF
      replace hF := hg.2
      refine g_iald (pc1 := 48) C hK 2 (f := (m3.1 2)) rfl hg.1 d_M_stand_47 rfl ?_
      refine g_iconst (pc1 := 49) (v := (1 : Int32)) C d_M_stand_48 rfl ic_1 ?_
      refine g_iload_n (pc1 := 50) C d_M_stand_49 rfl rfl 1 rfl ?_
      refine g_ishl (pc1 := 51) C d_M_stand_50 rfl ?_
      refine g_ixor (pc1 := 52) C d_M_stand_51 rfl ?_
      have hg := gd_some hF
      replace hF := hg.2
      refine g_iast (pc1 := 53) (ws1 := WM a cs (stI m3 2 (1 : Int32).toNatClampNeg (((m3.1 2) (1 : Int32).toNatClampNeg) ^^^ ((1 : Int32) <<< (x1 &&& 31))))) C hK 2 (f := (m3.1 2)) rfl hg.1 (set_WM_2 _ _ _ _ _) d_M_stand_52 rfl ?_
      refine g_iconst (pc1 := 54) (v := (1 : Int32)) C d_M_stand_53 rfl ic_1 ?_
      exact g_iret C hr hlk d_M_stand_54 (fst_of hF) (congrArg (WM a cs) (snd_of hF))
    · replace hF := ite_t hF c1
      refine g_aload_n (pc1 := 33) C d_M_stand_32 rfl rfl 0 rfl ?_
      obtain ⟨⟨r4, m4⟩, hm4, hF⟩ := bnd_some hF
      refine g_callVI (pc1 := 36) (ws1 := WM a cs m4) (As := []) (rest := []) (b := a 0) C hK 0 (c_M_no l D cs a (stI μ 0 0 (0 : Int32))  r4 m4 hm4) s_M_no kw_189 0 rfl rfl rfl ⟨Nat.le_of_ble_eq_true rfl, Nat.le_of_ble_eq_true rfl⟩ ⟨rfl, rfl⟩ d_M_stand_33 rfl rfl (Nat.le_of_ble_eq_true rfl) ?_
      exact g_iret C hr hlk d_M_stand_36 (fst_of hF) (congrArg (WM a cs) (snd_of hF))
  · replace hF := ite_f hF c1
    refine g_aload_n (pc1 := 14) C d_M_stand_13 rfl rfl 0 rfl ?_
    obtain ⟨⟨r5, m5⟩, hm5, hF⟩ := bnd_some hF
    refine g_callVI (pc1 := 17) (ws1 := WM a cs m5) (As := []) (rest := []) (b := a 0) C hK 0 (c_M_bad l D cs a (stI μ 0 0 (0 : Int32))  r5 m5 hm5) s_M_bad kw_182 0 rfl rfl rfl ⟨Nat.le_of_ble_eq_true rfl, Nat.le_of_ble_eq_true rfl⟩ ⟨rfl, rfl⟩ d_M_stand_14 rfl rfl (Nat.le_of_ble_eq_true rfl) ?_
    exact g_iret C hr hlk d_M_stand_17 (fst_of hF) (congrArg (WM a cs) (snd_of hF))
-- TentPegsModel.undo()I
set_option maxHeartbeats 4000000 in
set_option maxRecDepth 100000 in
theorem c_M_undo (l : Launch) (D : va_G) (cs : Nat → ClassId) (a : Nat → Nat) (μ : Mem)  (r : Int32) (μ1 : Mem) (hF : F_M_undo μ = some (r, μ1)) : MetI l y_M_undo b_M_undo 1 (some .int) { frames := 2, cells := 0, slots := 0, locals := 42 } D cs (AM a) (WM a cs μ) [.ref (a 0)] r (WM a cs μ1) := by
  refine met_of rfl (by decide +kernel) (Nat.le_of_ble_eq_true rfl) (fun p e s m below meth c C hK hr hlk => ?_)
  unfold F_M_undo at hF
  show G p l e { frames := 2, cells := 0, slots := 0, locals := 42 } s m _ below meth c _ D (AM a) 1 (WM a cs μ) 0 [(0, .ref (a 0))] []
  refine g_aload_n (pc1 := 1) C d_M_undo_0 rfl rfl 0 rfl ?_
  refine g_iconst (pc1 := 2) (v := (0 : Int32)) C d_M_undo_1 rfl ic_0 ?_
  refine put_WM_0_thrown (pc1 := 5) C hK kw_178 d_M_undo_2 rfl ?_
  refine g_aload_n (pc1 := 6) C d_M_undo_5 rfl rfl 0 rfl ?_
  refine get_WM_0_field (pc1 := 9) C hK kw_172 d_M_undo_6 rfl ?_
  refine g_iconst (pc1 := 10) (v := (4 : Int32)) C d_M_undo_9 rfl ic_4 ?_
  have hg := gd_some hF
  replace hF := hg.2
  refine g_iald (pc1 := 11) C hK 2 (f := (μ.1 2)) rfl hg.1 d_M_undo_10 rfl ?_
  refine g_if_ne (pc1 := 14) C 19 d_M_undo_11 rfl (by decide) (fun c1 => ?_) (fun c1 => ?_)
  · replace hF := ite_f hF c1
    refine g_aload_n (pc1 := 20) C d_M_undo_19 rfl rfl 0 rfl ?_
    refine get_WM_0_field (pc1 := 23) C hK kw_172 d_M_undo_20 rfl ?_
    refine g_iconst (pc1 := 24) (v := (4 : Int32)) C d_M_undo_23 rfl ic_4 ?_
    refine g_dup2 (pc1 := 25) C d_M_undo_24 rfl rfl rfl ?_
    have hg := gd_some hF
    replace hF := hg.2
    refine g_iald (pc1 := 26) C hK 2 (f := (μ.1 2)) rfl hg.1 d_M_undo_25 rfl ?_
    refine g_iconst (pc1 := 27) (v := (1 : Int32)) C d_M_undo_26 rfl ic_1 ?_
    refine g_isub (pc1 := 28) C d_M_undo_27 rfl ?_
    have hg := gd_some hF
    replace hF := hg.2
    refine g_iast (pc1 := 29) (ws1 := WM a cs (stI (stI μ 0 0 (0 : Int32)) 2 (4 : Int32).toNatClampNeg (((μ.1 2) (4 : Int32).toNatClampNeg) - (1 : Int32)))) C hK 2 (f := (μ.1 2)) rfl hg.1 (set_WM_2 _ _ _ _ _) d_M_undo_28 rfl ?_
    refine g_aload_n (pc1 := 30) C d_M_undo_29 rfl rfl 0 rfl ?_
    refine get_WM_0_field (pc1 := 33) C hK kw_172 d_M_undo_30 rfl ?_
    refine g_iconst (pc1 := 34) (v := (1 : Int32)) C d_M_undo_33 rfl ic_1 ?_
    refine g_aload_n (pc1 := 35) C d_M_undo_34 rfl rfl 0 rfl ?_
    refine get_WM_0_field (pc1 := 38) C hK kw_172 d_M_undo_35 rfl ?_
    refine g_bipush (pc1 := 40) (v := (37 : Int32)) C d_M_undo_38 rfl bp_37 ?_
    refine g_aload_n (pc1 := 41) C d_M_undo_40 rfl rfl 0 rfl ?_
    refine get_WM_0_field (pc1 := 44) C hK kw_172 d_M_undo_41 rfl ?_
    refine g_iconst (pc1 := 45) (v := (4 : Int32)) C d_M_undo_44 rfl ic_4 ?_
    have hg := gd_some hF
    replace hF := hg.2
    refine g_iald (pc1 := 46) C hK 2 (f := ((stI (stI μ 0 0 (0 : Int32)) 2 (4 : Int32).toNatClampNeg (((μ.1 2) (4 : Int32).toNatClampNeg) - (1 : Int32))).1 2)) rfl hg.1 d_M_undo_45 rfl ?_
    refine g_iadd (pc1 := 47) C d_M_undo_46 rfl ?_
    have hg := gd_some hF
    replace hF := hg.2
    refine g_iald (pc1 := 48) C hK 2 (f := ((stI (stI μ 0 0 (0 : Int32)) 2 (4 : Int32).toNatClampNeg (((μ.1 2) (4 : Int32).toNatClampNeg) - (1 : Int32))).1 2)) rfl hg.1 d_M_undo_47 rfl ?_
    have hg := gd_some hF
    replace hF := hg.2
    refine g_iast (pc1 := 49) (ws1 := WM a cs (stI (stI (stI μ 0 0 (0 : Int32)) 2 (4 : Int32).toNatClampNeg (((μ.1 2) (4 : Int32).toNatClampNeg) - (1 : Int32))) 2 (1 : Int32).toNatClampNeg (((stI (stI μ 0 0 (0 : Int32)) 2 (4 : Int32).toNatClampNeg (((μ.1 2) (4 : Int32).toNatClampNeg) - (1 : Int32))).1 2) ((37 : Int32) + (((stI (stI μ 0 0 (0 : Int32)) 2 (4 : Int32).toNatClampNeg (((μ.1 2) (4 : Int32).toNatClampNeg) - (1 : Int32))).1 2) (4 : Int32).toNatClampNeg)).toNatClampNeg))) C hK 2 (f := ((stI (stI μ 0 0 (0 : Int32)) 2 (4 : Int32).toNatClampNeg (((μ.1 2) (4 : Int32).toNatClampNeg) - (1 : Int32))).1 2)) rfl hg.1 (set_WM_2 _ _ _ _ _) d_M_undo_48 rfl ?_
    refine g_iconst (pc1 := 50) (v := (1 : Int32)) C d_M_undo_49 rfl ic_1 ?_
    exact g_iret C hr hlk d_M_undo_50 (fst_of hF) (congrArg (WM a cs) (snd_of hF))
  · replace hF := ite_t hF c1
    refine g_aload_n (pc1 := 15) C d_M_undo_14 rfl rfl 0 rfl ?_
    obtain ⟨⟨r1, m1⟩, hm1, hF⟩ := bnd_some hF
    refine g_callVI (pc1 := 18) (ws1 := WM a cs m1) (As := []) (rest := []) (b := a 0) C hK 0 (c_M_no l D cs a (stI μ 0 0 (0 : Int32))  r1 m1 hm1) s_M_no kw_189 0 rfl rfl rfl ⟨Nat.le_of_ble_eq_true rfl, Nat.le_of_ble_eq_true rfl⟩ ⟨rfl, rfl⟩ d_M_undo_15 rfl rfl (Nat.le_of_ble_eq_true rfl) ?_
    exact g_iret C hr hlk d_M_undo_18 (fst_of hF) (congrArg (WM a cs) (snd_of hF))
-- TentPegsModel.of(II)I
set_option maxHeartbeats 4000000 in
set_option maxRecDepth 100000 in
theorem p_M_of_25 {p : Program} {l : Launch} {e : Env} {s : State} {m : MethodId} {args : Array Value} {below : List Frame} {meth : Method} {c : Code} {D : va_G} {cs : Nat → ClassId} {a : Nat → Nat} {r : Int32} {μ1 : Mem} (C : Cx p s m args c b_M_of 3 "TentPegsModel") (hK : va_K D classes (tys cs) s) (hr : meth.sig.returnType = (some .int)) (hlk : meth.locks = false)  (μ : Mem)  (hF : F_M_of_25  μ = some (r, μ1)) : G p l e { frames := 3, cells := 0, slots := 0, locals := 66 } s m args below meth c (MQ below (Qi (AM a) D (WM a cs μ1) r) args s 0 0 (AM a)) D (AM a) 3 (WM a cs μ) 25 [(0, .ref (a 0))] [] := by
  unfold F_M_of_25 at hF
  refine g_aload_n (pc1 := 26) C d_M_of_25 rfl rfl 0 rfl ?_
  obtain ⟨⟨r1, m1⟩, hm1, hF⟩ := bnd_some hF
  refine g_callVI (pc1 := 29) (ws1 := WM a cs m1) (As := []) (rest := []) (b := a 0) C hK 0 (c_M_bad l D cs a μ  r1 m1 hm1) s_M_bad kw_182 0 rfl rfl rfl ⟨Nat.le_of_ble_eq_true rfl, Nat.le_of_ble_eq_true rfl⟩ ⟨rfl, rfl⟩ d_M_of_26 rfl rfl (Nat.le_of_ble_eq_true rfl) ?_
  exact g_iret C hr hlk d_M_of_29 (fst_of hF) (congrArg (WM a cs) (snd_of hF))
set_option maxHeartbeats 4000000 in
set_option maxRecDepth 100000 in
theorem c_M_of (l : Launch) (D : va_G) (cs : Nat → ClassId) (a : Nat → Nat) (μ : Mem) (x1 : Int32) (x2 : Int32) (r : Int32) (μ1 : Mem) (hF : F_M_of μ x1 x2 = some (r, μ1)) : MetI l y_M_of b_M_of 3 (some .int) { frames := 3, cells := 0, slots := 0, locals := 66 } D cs (AM a) (WM a cs μ) [.ref (a 0), .int x1, .int x2] r (WM a cs μ1) := by
  refine met_of rfl (by decide +kernel) (Nat.le_of_ble_eq_true rfl) (fun p e s m below meth c C hK hr hlk => ?_)
  unfold F_M_of at hF
  show G p l e { frames := 3, cells := 0, slots := 0, locals := 66 } s m _ below meth c _ D (AM a) 3 (WM a cs μ) 0 [(0, .ref (a 0)), (1, .int x1), (2, .int x2)] []
  refine g_aload_n (pc1 := 1) C d_M_of_0 rfl rfl 0 rfl ?_
  refine g_iconst (pc1 := 2) (v := (0 : Int32)) C d_M_of_1 rfl ic_0 ?_
  refine put_WM_0_thrown (pc1 := 5) C hK kw_178 d_M_of_2 rfl ?_
  refine g_aload_n (pc1 := 6) C d_M_of_5 rfl rfl 0 rfl ?_
  refine g_iload_n (pc1 := 7) C d_M_of_6 rfl rfl 1 rfl ?_
  obtain ⟨r1, hr1, hF⟩ := bnd_some hF
  refine g_callVI (pc1 := 10) (ws1 := WM a cs (stI μ 0 0 (0 : Int32))) (As := [.int x1]) (rest := []) (b := a 0) C hK 1 (c_M_noPeg l D cs a (stI μ 0 0 (0 : Int32)) x1 r1 hr1) s_M_noPeg kw_183 0 rfl rfl rfl ⟨Nat.le_of_ble_eq_true rfl, Nat.le_of_ble_eq_true rfl⟩ ⟨rfl, rfl⟩ d_M_of_7 rfl rfl (Nat.le_of_ble_eq_true rfl) ?_
  refine g_if_ne (pc1 := 13) C 25 d_M_of_10 rfl (by decide) (fun c1 => ?_) (fun c1 => ?_)
  · replace hF := ite_f hF c1
    exact g_sub [0] rfl (p_M_of_25 C hK hr hlk  (stI μ 0 0 (0 : Int32)) hF)
  · replace hF := ite_t hF c1
    refine g_iload_n (pc1 := 14) C d_M_of_13 rfl rfl 2 rfl ?_
    refine g_i2l (pc1 := 15) C d_M_of_14 rfl ?_
    refine g_lconst (pc1 := 16) (v := (0 : Int64)) C d_M_of_15 rfl lc_0 ?_
    refine g_ldc2 (pc1 := 19) (v := (5 : Int64)) C d_M_of_16 rfl kw_184 ?_
    obtain ⟨r2, hr2, hF⟩ := bnd_some hF
    refine g_callSI (pc1 := 22) (As := [.long (x2.toInt64), .long (0 : Int64), .long (5 : Int64)]) (rest := []) C 3 (c_M_in l (x2.toInt64) (0 : Int64) (5 : Int64) r2 hr2) s_M_in kw_173 rfl ⟨Nat.le_of_ble_eq_true rfl, Nat.le_of_ble_eq_true rfl⟩ ⟨rfl, rfl⟩ d_M_of_19 rfl rfl (Nat.le_of_ble_eq_true rfl) ?_
    refine g_if_ne (pc1 := 25) C 30 d_M_of_22 rfl (by decide) (fun c1 => ?_) (fun c1 => ?_)
    · replace hF := ite_f hF c1
      refine g_iload_n (pc1 := 31) C d_M_of_30 rfl rfl 2 rfl ?_
      by_cases h0 : x2 = (0 : Int32)
      · replace hF := ite_t hF h0
        refine g_tblIn C 64 d_M_of_31 0 (by rw [h0]; exact ti_0) (by decide) (by decide) rfl (by decide) ?_
        refine g_aload_n (pc1 := 65) C d_M_of_64 rfl rfl 0 rfl ?_
        refine get_WM_0_field (pc1 := 68) C hK kw_172 d_M_of_65 rfl ?_
        refine g_iconst (pc1 := 69) (v := (5 : Int32)) C d_M_of_68 rfl ic_5 ?_
        refine g_iload_n (pc1 := 70) C d_M_of_69 rfl rfl 1 rfl ?_
        refine g_iadd (pc1 := 71) C d_M_of_70 rfl ?_
        have hg := gd_some hF
        replace hF := hg.2
        refine g_iald (pc1 := 72) C hK 2 (f := (μ.1 2)) rfl hg.1 d_M_of_71 rfl ?_
        exact g_iret C hr hlk d_M_of_72 (fst_of hF) (congrArg (WM a cs) (snd_of hF))
      replace hF := ite_f hF h0
      by_cases h1 : x2 = (1 : Int32)
      · replace hF := ite_t hF h1
        refine g_tblIn C 73 d_M_of_31 1 (by rw [h1]; exact ti_1) (by decide) (by decide) rfl (by decide) ?_
        refine g_aload_n (pc1 := 74) C d_M_of_73 rfl rfl 0 rfl ?_
        refine get_WM_0_field (pc1 := 77) C hK kw_172 d_M_of_74 rfl ?_
        refine g_bipush (pc1 := 79) (v := (13 : Int32)) C d_M_of_77 rfl bp_13 ?_
        refine g_iload_n (pc1 := 80) C d_M_of_79 rfl rfl 1 rfl ?_
        refine g_iadd (pc1 := 81) C d_M_of_80 rfl ?_
        have hg := gd_some hF
        replace hF := hg.2
        refine g_iald (pc1 := 82) C hK 2 (f := (μ.1 2)) rfl hg.1 d_M_of_81 rfl ?_
        exact g_iret C hr hlk d_M_of_82 (fst_of hF) (congrArg (WM a cs) (snd_of hF))
      replace hF := ite_f hF h1
      by_cases h2 : x2 = (2 : Int32)
      · replace hF := ite_t hF h2
        refine g_tblIn C 83 d_M_of_31 2 (by rw [h2]; exact ti_2) (by decide) (by decide) rfl (by decide) ?_
        refine g_aload_n (pc1 := 84) C d_M_of_83 rfl rfl 0 rfl ?_
        refine get_WM_0_field (pc1 := 87) C hK kw_172 d_M_of_84 rfl ?_
        refine g_bipush (pc1 := 89) (v := (21 : Int32)) C d_M_of_87 rfl bp_21 ?_
        refine g_iload_n (pc1 := 90) C d_M_of_89 rfl rfl 1 rfl ?_
        refine g_iadd (pc1 := 91) C d_M_of_90 rfl ?_
        have hg := gd_some hF
        replace hF := hg.2
        refine g_iald (pc1 := 92) C hK 2 (f := (μ.1 2)) rfl hg.1 d_M_of_91 rfl ?_
        exact g_iret C hr hlk d_M_of_92 (fst_of hF) (congrArg (WM a cs) (snd_of hF))
      replace hF := ite_f hF h2
      by_cases h3 : x2 = (3 : Int32)
      · replace hF := ite_t hF h3
        refine g_tblIn C 93 d_M_of_31 3 (by rw [h3]; exact ti_3) (by decide) (by decide) rfl (by decide) ?_
        refine g_aload_n (pc1 := 94) C d_M_of_93 rfl rfl 0 rfl ?_
        refine g_iload_n (pc1 := 95) C d_M_of_94 rfl rfl 1 rfl ?_
        refine g_aload_n (pc1 := 96) C d_M_of_95 rfl rfl 0 rfl ?_
        refine get_WM_0_field (pc1 := 99) C hK kw_172 d_M_of_96 rfl ?_
        refine g_iconst (pc1 := 100) (v := (1 : Int32)) C d_M_of_99 rfl ic_1 ?_
        have hg := gd_some hF
        replace hF := hg.2
        refine g_iald (pc1 := 101) C hK 2 (f := (μ.1 2)) rfl hg.1 d_M_of_100 rfl ?_
        obtain ⟨r3, hr3, hF⟩ := bnd_some hF
        refine g_callVI (pc1 := 104) (ws1 := WM a cs (stI μ 0 0 (0 : Int32))) (As := [.int x1, .int ((μ.1 2) (1 : Int32).toNatClampNeg)]) (rest := []) (b := a 0) C hK 2 (c_M_holds l D cs a (stI μ 0 0 (0 : Int32)) x1 ((μ.1 2) (1 : Int32).toNatClampNeg) r3 hr3) s_M_holds kw_226 0 rfl rfl rfl ⟨Nat.le_of_ble_eq_true rfl, Nat.le_of_ble_eq_true rfl⟩ ⟨rfl, rfl⟩ d_M_of_101 rfl rfl (Nat.le_of_ble_eq_true rfl) ?_
        exact g_iret C hr hlk d_M_of_104 (fst_of hF) (congrArg (WM a cs) (snd_of hF))
      replace hF := ite_f hF h3
      by_cases h4 : x2 = (4 : Int32)
      · replace hF := ite_t hF h4
        refine g_tblIn C 105 d_M_of_31 4 (by rw [h4]; exact ti_4) (by decide) (by decide) rfl (by decide) ?_
        refine g_aload_n (pc1 := 106) C d_M_of_105 rfl rfl 0 rfl ?_
        refine get_WM_0_field (pc1 := 109) C hK kw_172 d_M_of_106 rfl ?_
        refine g_iconst (pc1 := 110) (v := (1 : Int32)) C d_M_of_109 rfl ic_1 ?_
        have hg := gd_some hF
        replace hF := hg.2
        refine g_iald (pc1 := 111) C hK 2 (f := (μ.1 2)) rfl hg.1 d_M_of_110 rfl ?_
        refine g_iload_n (pc1 := 112) C d_M_of_111 rfl rfl 1 rfl ?_
        refine g_ishr (pc1 := 113) C d_M_of_112 rfl ?_
        refine g_iconst (pc1 := 114) (v := (1 : Int32)) C d_M_of_113 rfl ic_1 ?_
        refine g_iand (pc1 := 115) C d_M_of_114 rfl ?_
        exact g_iret C hr hlk d_M_of_115 (fst_of hF) (congrArg (WM a cs) (snd_of hF))
      replace hF := ite_f hF h4
      have q0 := ne_toInt ti_0 h0
      have q1 := ne_toInt ti_1 h1
      have q2 := ne_toInt ti_2 h2
      have q3 := ne_toInt ti_3 h3
      have q4 := ne_toInt ti_4 h4
      refine g_tblOut C 116 d_M_of_31 (by omega) (by decide) ?_
      refine g_aload_n (pc1 := 117) C d_M_of_116 rfl rfl 0 rfl ?_
      refine g_iload_n (pc1 := 118) C d_M_of_117 rfl rfl 1 rfl ?_
      obtain ⟨r4, hr4, hF⟩ := bnd_some hF
      refine g_callVI (pc1 := 121) (ws1 := WM a cs (stI μ 0 0 (0 : Int32))) (As := [.int x1]) (rest := []) (b := a 0) C hK 1 (c_M_wayOf l D cs a (stI μ 0 0 (0 : Int32)) x1 r4 hr4) s_M_wayOf kw_223 0 rfl rfl rfl ⟨Nat.le_of_ble_eq_true rfl, Nat.le_of_ble_eq_true rfl⟩ ⟨rfl, rfl⟩ d_M_of_118 rfl rfl (Nat.le_of_ble_eq_true rfl) ?_
      exact g_iret C hr hlk d_M_of_121 (fst_of hF) (congrArg (WM a cs) (snd_of hF))
    · replace hF := ite_t hF c1
      exact g_sub [0] rfl (p_M_of_25 C hK hr hlk  (stI μ 0 0 (0 : Int32)) hF)
-- TentPegsModel.pullNow(III)I
set_option maxHeartbeats 4000000 in
set_option maxRecDepth 100000 in
theorem c_M_pullNow (l : Launch) (D : va_G) (cs : Nat → ClassId) (a : Nat → Nat) (μ : Mem) (x1 : Int32) (x2 : Int32) (x3 : Int32) (r : Int32) (hF : F_M_pullNow μ x1 x2 x3 = some r) : MetI l y_M_pullNow b_M_pullNow 4 (some .int) { frames := 3, cells := 0, slots := 0, locals := 70 } D cs (AM a) (WM a cs μ) [.ref (a 0), .int x1, .int x2, .int x3] r (WM a cs μ) := by
  refine met_of rfl (by decide +kernel) (Nat.le_of_ble_eq_true rfl) (fun p e s m below meth c C hK hr hlk => ?_)
  unfold F_M_pullNow at hF
  show G p l e { frames := 3, cells := 0, slots := 0, locals := 70 } s m _ below meth c _ D (AM a) 4 (WM a cs μ) 0 [(0, .ref (a 0)), (1, .int x1), (2, .int x2), (3, .int x3)] []
  refine g_aload_n (pc1 := 1) C d_M_pullNow_0 rfl rfl 0 rfl ?_
  refine get_WM_0_field (pc1 := 4) C hK kw_172 d_M_pullNow_1 rfl ?_
  refine g_iconst (pc1 := 5) (v := (1 : Int32)) C d_M_pullNow_4 rfl ic_1 ?_
  have hg := gd_some hF
  replace hF := hg.2
  refine g_iald (pc1 := 6) C hK 2 (f := (μ.1 2)) rfl hg.1 d_M_pullNow_5 rfl ?_
  refine g_iload_n (pc1 := 7) C d_M_pullNow_6 rfl rfl 1 rfl ?_
  obtain ⟨r1, hr1, hF⟩ := bnd_some hF
  refine g_callSI (pc1 := 10) (As := [.int ((μ.1 2) (1 : Int32).toNatClampNeg), .int x1]) (rest := []) C 2 (c_M_has l ((μ.1 2) (1 : Int32).toNatClampNeg) x1 r1 hr1) s_M_has kw_188 rfl ⟨Nat.le_of_ble_eq_true rfl, Nat.le_of_ble_eq_true rfl⟩ ⟨rfl, rfl⟩ d_M_pullNow_7 rfl rfl (Nat.le_of_ble_eq_true rfl) ?_
  refine g_if_eq (pc1 := 13) C 30 d_M_pullNow_10 rfl (by decide) (fun c1 => ?_) (fun c1 => ?_)
  · replace hF := ite_t hF c1
    refine g_iconst (pc1 := 31) (v := (0 : Int32)) C d_M_pullNow_30 rfl ic_0 ?_
    exact g_iret C hr hlk d_M_pullNow_31 (Option.some.inj hF) rfl
  · replace hF := ite_f hF c1
    refine g_aload_n (pc1 := 14) C d_M_pullNow_13 rfl rfl 0 rfl ?_
    refine g_iload_n (pc1 := 15) C d_M_pullNow_14 rfl rfl 1 rfl ?_
    refine g_iload_n (pc1 := 16) C d_M_pullNow_15 rfl rfl 2 rfl ?_
    refine g_iload_n (pc1 := 17) C d_M_pullNow_16 rfl rfl 3 rfl ?_
    refine g_iconst (pc1 := 18) (v := (0 : Int32)) C d_M_pullNow_17 rfl ic_0 ?_
    refine g_aload_n (pc1 := 19) C d_M_pullNow_18 rfl rfl 0 rfl ?_
    refine get_WM_0_field (pc1 := 22) C hK kw_172 d_M_pullNow_19 rfl ?_
    refine g_iconst (pc1 := 23) (v := (3 : Int32)) C d_M_pullNow_22 rfl ic_3 ?_
    have hg := gd_some hF
    replace hF := hg.2
    refine g_iald (pc1 := 24) C hK 2 (f := (μ.1 2)) rfl hg.1 d_M_pullNow_23 rfl ?_
    obtain ⟨r2, hr2, hF⟩ := bnd_some hF
    refine g_callVI (pc1 := 27) (ws1 := WM a cs μ) (As := [.int x1, .int x2, .int x3, .int (0 : Int32), .int ((μ.1 2) (3 : Int32).toNatClampNeg)]) (rest := []) (b := a 0) C hK 5 (c_M_pullOf l D cs a μ x1 x2 x3 (0 : Int32) ((μ.1 2) (3 : Int32).toNatClampNeg) r2 hr2) s_M_pullOf kw_225 0 rfl rfl rfl ⟨Nat.le_of_ble_eq_true rfl, Nat.le_of_ble_eq_true rfl⟩ ⟨rfl, rfl⟩ d_M_pullNow_24 rfl rfl (Nat.le_of_ble_eq_true rfl) ?_
    refine g_goto C 31 d_M_pullNow_27 (by decide) ?_
    exact g_iret C hr hlk d_M_pullNow_31 (Option.some.inj hF) rfl
-- TentPegsModel.pull(III)I
set_option maxHeartbeats 4000000 in
set_option maxRecDepth 100000 in
theorem p_M_pull_21 {p : Program} {l : Launch} {e : Env} {s : State} {m : MethodId} {args : Array Value} {below : List Frame} {meth : Method} {c : Code} {D : va_G} {cs : Nat → ClassId} {a : Nat → Nat} {r : Int32} {μ1 : Mem} (C : Cx p s m args c b_M_pull 4 "TentPegsModel") (hK : va_K D classes (tys cs) s) (hr : meth.sig.returnType = (some .int)) (hlk : meth.locks = false)  (μ : Mem)  (hF : F_M_pull_21  μ = some (r, μ1)) : G p l e { frames := 4, cells := 0, slots := 0, locals := 93 } s m args below meth c (MQ below (Qi (AM a) D (WM a cs μ1) r) args s 0 0 (AM a)) D (AM a) 4 (WM a cs μ) 21 [(0, .ref (a 0))] [] := by
  unfold F_M_pull_21 at hF
  refine g_aload_n (pc1 := 22) C d_M_pull_21 rfl rfl 0 rfl ?_
  obtain ⟨⟨r1, m1⟩, hm1, hF⟩ := bnd_some hF
  refine g_callVI (pc1 := 25) (ws1 := WM a cs m1) (As := []) (rest := []) (b := a 0) C hK 0 (c_M_bad l D cs a μ  r1 m1 hm1) s_M_bad kw_182 0 rfl rfl rfl ⟨Nat.le_of_ble_eq_true rfl, Nat.le_of_ble_eq_true rfl⟩ ⟨rfl, rfl⟩ d_M_pull_22 rfl rfl (Nat.le_of_ble_eq_true rfl) ?_
  refine g_goto C 35 d_M_pull_25 (by decide) ?_
  exact g_iret C hr hlk d_M_pull_35 (fst_of hF) (congrArg (WM a cs) (snd_of hF))
set_option maxHeartbeats 4000000 in
set_option maxRecDepth 100000 in
theorem c_M_pull (l : Launch) (D : va_G) (cs : Nat → ClassId) (a : Nat → Nat) (μ : Mem) (x1 : Int32) (x2 : Int32) (x3 : Int32) (r : Int32) (μ1 : Mem) (hF : F_M_pull μ x1 x2 x3 = some (r, μ1)) : MetI l y_M_pull b_M_pull 4 (some .int) { frames := 4, cells := 0, slots := 0, locals := 93 } D cs (AM a) (WM a cs μ) [.ref (a 0), .int x1, .int x2, .int x3] r (WM a cs μ1) := by
  refine met_of rfl (by decide +kernel) (Nat.le_of_ble_eq_true rfl) (fun p e s m below meth c C hK hr hlk => ?_)
  unfold F_M_pull at hF
  show G p l e { frames := 4, cells := 0, slots := 0, locals := 93 } s m _ below meth c _ D (AM a) 4 (WM a cs μ) 0 [(0, .ref (a 0)), (1, .int x1), (2, .int x2), (3, .int x3)] []
  refine g_aload_n (pc1 := 1) C d_M_pull_0 rfl rfl 0 rfl ?_
  refine g_iconst (pc1 := 2) (v := (0 : Int32)) C d_M_pull_1 rfl ic_0 ?_
  refine put_WM_0_thrown (pc1 := 5) C hK kw_178 d_M_pull_2 rfl ?_
  refine g_aload_n (pc1 := 6) C d_M_pull_5 rfl rfl 0 rfl ?_
  refine g_iload_n (pc1 := 7) C d_M_pull_6 rfl rfl 1 rfl ?_
  obtain ⟨r1, hr1, hF⟩ := bnd_some hF
  refine g_callVI (pc1 := 10) (ws1 := WM a cs (stI μ 0 0 (0 : Int32))) (As := [.int x1]) (rest := []) (b := a 0) C hK 1 (c_M_noPeg l D cs a (stI μ 0 0 (0 : Int32)) x1 r1 hr1) s_M_noPeg kw_183 0 rfl rfl rfl ⟨Nat.le_of_ble_eq_true rfl, Nat.le_of_ble_eq_true rfl⟩ ⟨rfl, rfl⟩ d_M_pull_7 rfl rfl (Nat.le_of_ble_eq_true rfl) ?_
  refine g_if_ne (pc1 := 13) C 21 d_M_pull_10 rfl (by decide) (fun c1 => ?_) (fun c1 => ?_)
  · replace hF := ite_f hF c1
    exact g_sub [0] rfl (p_M_pull_21 C hK hr hlk  (stI μ 0 0 (0 : Int32)) hF)
  · replace hF := ite_t hF c1
    refine g_iload_n (pc1 := 14) C d_M_pull_13 rfl rfl 2 rfl ?_
    refine g_iload_n (pc1 := 15) C d_M_pull_14 rfl rfl 3 rfl ?_
    obtain ⟨r2, hr2, hF⟩ := bnd_some hF
    refine g_callSI (pc1 := 18) (As := [.int x2, .int x3]) (rest := []) C 2 (c_M_noGust l x2 x3 r2 hr2) s_M_noGust kw_233 rfl ⟨Nat.le_of_ble_eq_true rfl, Nat.le_of_ble_eq_true rfl⟩ ⟨rfl, rfl⟩ d_M_pull_15 rfl rfl (Nat.le_of_ble_eq_true rfl) ?_
    refine g_if_eq (pc1 := 21) C 28 d_M_pull_18 rfl (by decide) (fun c1 => ?_) (fun c1 => ?_)
    · replace hF := ite_t hF c1
      refine g_aload_n (pc1 := 29) C d_M_pull_28 rfl rfl 0 rfl ?_
      refine g_iload_n (pc1 := 30) C d_M_pull_29 rfl rfl 1 rfl ?_
      refine g_iload_n (pc1 := 31) C d_M_pull_30 rfl rfl 2 rfl ?_
      refine g_iload_n (pc1 := 32) C d_M_pull_31 rfl rfl 3 rfl ?_
      obtain ⟨r3, hr3, hF⟩ := bnd_some hF
      refine g_callVI (pc1 := 35) (ws1 := WM a cs (stI μ 0 0 (0 : Int32))) (As := [.int x1, .int x2, .int x3]) (rest := []) (b := a 0) C hK 3 (c_M_pullNow l D cs a (stI μ 0 0 (0 : Int32)) x1 x2 x3 r3 hr3) s_M_pullNow kw_237 0 rfl rfl rfl ⟨Nat.le_of_ble_eq_true rfl, Nat.le_of_ble_eq_true rfl⟩ ⟨rfl, rfl⟩ d_M_pull_32 rfl rfl (Nat.le_of_ble_eq_true rfl) ?_
      exact g_iret C hr hlk d_M_pull_35 (fst_of hF) (congrArg (WM a cs) (snd_of hF))
    · replace hF := ite_f hF c1
      exact g_sub [0] rfl (p_M_pull_21 C hK hr hlk  (stI μ 0 0 (0 : Int32)) hF)
-- TentPegsModel.first(III)I
set_option maxHeartbeats 4000000 in
set_option maxRecDepth 100000 in
theorem p_M_first_18 {p : Program} {l : Launch} {e : Env} {s : State} {m : MethodId} {args : Array Value} {below : List Frame} {meth : Method} {c : Code} {D : va_G} {cs : Nat → ClassId} {a : Nat → Nat} {r : Int32} {μ1 : Mem} (C : Cx p s m args c b_M_first 5 "TentPegsModel") (hK : va_K D classes (tys cs) s) (hr : meth.sig.returnType = (some .int)) (hlk : meth.locks = false)  (μ : Mem)  (hF : F_M_first_18  μ = some (r, μ1)) : G p l e { frames := 5, cells := 0, slots := 0, locals := 117 } s m args below meth c (MQ below (Qi (AM a) D (WM a cs μ1) r) args s 0 0 (AM a)) D (AM a) 5 (WM a cs μ) 18 [(0, .ref (a 0))] [] := by
  unfold F_M_first_18 at hF
  refine g_aload_n (pc1 := 19) C d_M_first_18 rfl rfl 0 rfl ?_
  obtain ⟨⟨r1, m1⟩, hm1, hF⟩ := bnd_some hF
  refine g_callVI (pc1 := 22) (ws1 := WM a cs m1) (As := []) (rest := []) (b := a 0) C hK 0 (c_M_badTen l D cs a μ  r1 m1 hm1) s_M_badTen kw_238 0 rfl rfl rfl ⟨Nat.le_of_ble_eq_true rfl, Nat.le_of_ble_eq_true rfl⟩ ⟨rfl, rfl⟩ d_M_first_19 rfl rfl (Nat.le_of_ble_eq_true rfl) ?_
  exact g_iret C hr hlk d_M_first_22 (fst_of hF) (congrArg (WM a cs) (snd_of hF))
set_option maxHeartbeats 4000000 in
set_option maxRecDepth 100000 in
theorem c_M_first (l : Launch) (D : va_G) (cs : Nat → ClassId) (a : Nat → Nat) (μ : Mem) (x1 : Int32) (x2 : Int32) (x3 : Int32) (r : Int32) (μ1 : Mem) (hF : F_M_first μ x1 x2 x3 = some (r, μ1)) : MetI l y_M_first b_M_first 5 (some .int) { frames := 5, cells := 0, slots := 0, locals := 117 } D cs (AM a) (WM a cs μ) [.ref (a 0), .int x1, .int x2, .int x3] r (WM a cs μ1) := by
  refine met_of rfl (by decide +kernel) (Nat.le_of_ble_eq_true rfl) (fun p e s m below meth c C hK hr hlk => ?_)
  unfold F_M_first at hF
  show G p l e { frames := 5, cells := 0, slots := 0, locals := 117 } s m _ below meth c _ D (AM a) 5 (WM a cs μ) 0 [(0, .ref (a 0)), (1, .int x1), (2, .int x2), (3, .int x3)] []
  refine g_aload_n (pc1 := 1) C d_M_first_0 rfl rfl 0 rfl ?_
  refine g_iconst (pc1 := 2) (v := (0 : Int32)) C d_M_first_1 rfl ic_0 ?_
  refine put_WM_0_thrown (pc1 := 5) C hK kw_178 d_M_first_2 rfl ?_
  refine g_iload_n (pc1 := 6) C d_M_first_5 rfl rfl 1 rfl ?_
  refine g_iload_n (pc1 := 7) C d_M_first_6 rfl rfl 2 rfl ?_
  obtain ⟨r1, hr1, hF⟩ := bnd_some hF
  refine g_callSI (pc1 := 10) (As := [.int x1, .int x2]) (rest := []) C 2 (c_M_noGust l x1 x2 r1 hr1) s_M_noGust kw_233 rfl ⟨Nat.le_of_ble_eq_true rfl, Nat.le_of_ble_eq_true rfl⟩ ⟨rfl, rfl⟩ d_M_first_7 rfl rfl (Nat.le_of_ble_eq_true rfl) ?_
  refine g_if_ne (pc1 := 13) C 18 d_M_first_10 rfl (by decide) (fun c1 => ?_) (fun c1 => ?_)
  · replace hF := ite_f hF c1
    exact g_sub [0] rfl (p_M_first_18 C hK hr hlk  (stI μ 0 0 (0 : Int32)) hF)
  · replace hF := ite_t hF c1
    refine g_iload_n (pc1 := 14) C d_M_first_13 rfl rfl 3 rfl ?_
    refine g_iconst (pc1 := 15) (v := (-1 : Int32)) C d_M_first_14 rfl ic_m1 ?_
    refine g_icmp_ge (pc1 := 18) C 23 d_M_first_15 rfl (by decide) (fun c1 => ?_) (fun c1 => ?_)
    · replace hF := ite_t hF c1
      refine g_aload_n (pc1 := 24) C d_M_first_23 rfl rfl 0 rfl ?_
      refine g_aload_n (pc1 := 25) C d_M_first_24 rfl rfl 0 rfl ?_
      refine get_WM_0_field (pc1 := 28) C hK kw_172 d_M_first_25 rfl ?_
      refine g_iconst (pc1 := 29) (v := (1 : Int32)) C d_M_first_28 rfl ic_1 ?_
      have hg := gd_some hF
      replace hF := hg.2
      refine g_iald (pc1 := 30) C hK 2 (f := (μ.1 2)) rfl hg.1 d_M_first_29 rfl ?_
      refine g_iload_n (pc1 := 31) C d_M_first_30 rfl rfl 1 rfl ?_
      refine g_iload_n (pc1 := 32) C d_M_first_31 rfl rfl 2 rfl ?_
      obtain ⟨⟨r2, m2⟩, hm2, hF⟩ := bnd_some hF
      refine g_callVI (pc1 := 35) (ws1 := WM a cs m2) (As := [.int ((μ.1 2) (1 : Int32).toNatClampNeg), .int x1, .int x2]) (rest := []) (b := a 0) C hK 3 (c_M_behind l D cs a (stI μ 0 0 (0 : Int32)) ((μ.1 2) (1 : Int32).toNatClampNeg) x1 x2 r2 m2 hm2) s_M_behind kw_236 0 rfl rfl rfl ⟨Nat.le_of_ble_eq_true rfl, Nat.le_of_ble_eq_true rfl⟩ ⟨rfl, rfl⟩ d_M_first_32 rfl rfl (Nat.le_of_ble_eq_true rfl) ?_
      refine g_istore (pc1 := 37) (L1 := [(4, .int r2), (0, .ref (a 0)), (1, .int x1), (2, .int x2), (3, .int x3)]) C d_M_first_35 rfl (by decide) rfl ?_
      refine g_iload_n (pc1 := 38) C d_M_first_37 rfl rfl 4 rfl ?_
      refine g_iconst (pc1 := 39) (v := (-1 : Int32)) C d_M_first_38 rfl ic_m1 ?_
      refine g_icmp_ne (pc1 := 42) C 49 d_M_first_39 rfl (by decide) (fun c1 => ?_) (fun c1 => ?_)
      · replace hF := ite_f hF c1
        refine g_iload_n (pc1 := 50) C d_M_first_49 rfl rfl 4 rfl ?_
        refine g_aload_n (pc1 := 51) C d_M_first_50 rfl rfl 1 rfl ?_
        refine get_WM_0_gone (pc1 := 54) C hK (v := (m2.1 0 16)) rfl kw_229 d_M_first_51 rfl ?_
        refine g_icmp_ge (pc1 := 57) C 66 d_M_first_54 rfl (by decide) (fun c1 => ?_) (fun c1 => ?_)
        · replace hF := ite_t hF c1
          refine g_iload (pc1 := 68) C d_M_first_66 rfl 0 rfl ?_
          refine g_if_ge (pc1 := 71) C 76 d_M_first_68 rfl (by decide) (fun c1 => ?_) (fun c1 => ?_)
          · replace hF := ite_t hF c1
            refine g_bipush (pc1 := 78) (v := (-5 : Int32)) C d_M_first_76 rfl bp_m5 ?_
            exact g_iret C hr hlk d_M_first_78 (fst_of hF) (congrArg (WM a cs) (snd_of hF))
          · replace hF := ite_f hF c1
            refine g_iload (pc1 := 73) C d_M_first_71 rfl 0 rfl ?_
            refine g_goto C 78 d_M_first_73 (by decide) ?_
            exact g_iret C hr hlk d_M_first_78 (fst_of hF) (congrArg (WM a cs) (snd_of hF))
        · replace hF := ite_f hF c1
          refine g_aload_n (pc1 := 58) C d_M_first_57 rfl rfl 1 rfl ?_
          refine get_WM_0_row (pc1 := 61) C hK kw_231 d_M_first_58 rfl ?_
          refine g_iload_n (pc1 := 62) C d_M_first_61 rfl rfl 4 rfl ?_
          have hg := gd_some hF
          replace hF := hg.2
          refine g_iald (pc1 := 63) C hK 9 (f := (m2.1 9)) rfl hg.1 d_M_first_62 rfl ?_
          refine g_goto C 78 d_M_first_63 (by decide) ?_
          exact g_iret C hr hlk d_M_first_78 (fst_of hF) (congrArg (WM a cs) (snd_of hF))
      · replace hF := ite_t hF c1
        refine g_aload_n (pc1 := 43) C d_M_first_42 rfl rfl 1 rfl ?_
        refine get_WM_0_gone (pc1 := 46) C hK (v := (m2.1 0 16)) rfl kw_229 d_M_first_43 rfl ?_
        refine g_goto C 78 d_M_first_46 (by decide) ?_
        exact g_iret C hr hlk d_M_first_78 (fst_of hF) (congrArg (WM a cs) (snd_of hF))
    · replace hF := ite_f hF c1
      exact g_sub [0] rfl (p_M_first_18 C hK hr hlk  (stI μ 0 0 (0 : Int32)) hF)
-- TentPegsModel.lost(III)I
set_option maxHeartbeats 4000000 in
set_option maxRecDepth 100000 in
theorem p_M_lost_21 {p : Program} {l : Launch} {e : Env} {s : State} {m : MethodId} {args : Array Value} {below : List Frame} {meth : Method} {c : Code} {D : va_G} {cs : Nat → ClassId} {a : Nat → Nat} {r : Int32} {μ1 : Mem} (C : Cx p s m args c b_M_lost 4 "TentPegsModel") (hK : va_K D classes (tys cs) s) (hr : meth.sig.returnType = (some .int)) (hlk : meth.locks = false)  (μ : Mem)  (hF : F_M_lost_21  μ = some (r, μ1)) : G p l e { frames := 5, cells := 0, slots := 0, locals := 117 } s m args below meth c (MQ below (Qi (AM a) D (WM a cs μ1) r) args s 0 0 (AM a)) D (AM a) 4 (WM a cs μ) 21 [(0, .ref (a 0))] [] := by
  unfold F_M_lost_21 at hF
  refine g_aload_n (pc1 := 22) C d_M_lost_21 rfl rfl 0 rfl ?_
  obtain ⟨⟨r1, m1⟩, hm1, hF⟩ := bnd_some hF
  refine g_callVI (pc1 := 25) (ws1 := WM a cs m1) (As := []) (rest := []) (b := a 0) C hK 0 (c_M_bad l D cs a μ  r1 m1 hm1) s_M_bad kw_182 0 rfl rfl rfl ⟨Nat.le_of_ble_eq_true rfl, Nat.le_of_ble_eq_true rfl⟩ ⟨rfl, rfl⟩ d_M_lost_22 rfl rfl (Nat.le_of_ble_eq_true rfl) ?_
  exact g_iret C hr hlk d_M_lost_25 (fst_of hF) (congrArg (WM a cs) (snd_of hF))
set_option maxHeartbeats 4000000 in
set_option maxRecDepth 100000 in
theorem c_M_lost (l : Launch) (D : va_G) (cs : Nat → ClassId) (a : Nat → Nat) (μ : Mem) (x1 : Int32) (x2 : Int32) (x3 : Int32) (r : Int32) (μ1 : Mem) (hF : F_M_lost μ x1 x2 x3 = some (r, μ1)) : MetI l y_M_lost b_M_lost 4 (some .int) { frames := 5, cells := 0, slots := 0, locals := 117 } D cs (AM a) (WM a cs μ) [.ref (a 0), .int x1, .int x2, .int x3] r (WM a cs μ1) := by
  refine met_of rfl (by decide +kernel) (Nat.le_of_ble_eq_true rfl) (fun p e s m below meth c C hK hr hlk => ?_)
  unfold F_M_lost at hF
  show G p l e { frames := 5, cells := 0, slots := 0, locals := 117 } s m _ below meth c _ D (AM a) 4 (WM a cs μ) 0 [(0, .ref (a 0)), (1, .int x1), (2, .int x2), (3, .int x3)] []
  refine g_aload_n (pc1 := 1) C d_M_lost_0 rfl rfl 0 rfl ?_
  refine g_iconst (pc1 := 2) (v := (0 : Int32)) C d_M_lost_1 rfl ic_0 ?_
  refine put_WM_0_thrown (pc1 := 5) C hK kw_178 d_M_lost_2 rfl ?_
  refine g_aload_n (pc1 := 6) C d_M_lost_5 rfl rfl 0 rfl ?_
  refine g_iload_n (pc1 := 7) C d_M_lost_6 rfl rfl 1 rfl ?_
  obtain ⟨r1, hr1, hF⟩ := bnd_some hF
  refine g_callVI (pc1 := 10) (ws1 := WM a cs (stI μ 0 0 (0 : Int32))) (As := [.int x1]) (rest := []) (b := a 0) C hK 1 (c_M_noPeg l D cs a (stI μ 0 0 (0 : Int32)) x1 r1 hr1) s_M_noPeg kw_183 0 rfl rfl rfl ⟨Nat.le_of_ble_eq_true rfl, Nat.le_of_ble_eq_true rfl⟩ ⟨rfl, rfl⟩ d_M_lost_7 rfl rfl (Nat.le_of_ble_eq_true rfl) ?_
  refine g_if_ne (pc1 := 13) C 21 d_M_lost_10 rfl (by decide) (fun c1 => ?_) (fun c1 => ?_)
  · replace hF := ite_f hF c1
    exact g_sub [0] rfl (p_M_lost_21 C hK hr hlk  (stI μ 0 0 (0 : Int32)) hF)
  · replace hF := ite_t hF c1
    refine g_iload_n (pc1 := 14) C d_M_lost_13 rfl rfl 2 rfl ?_
    refine g_iload_n (pc1 := 15) C d_M_lost_14 rfl rfl 3 rfl ?_
    obtain ⟨r2, hr2, hF⟩ := bnd_some hF
    refine g_callSI (pc1 := 18) (As := [.int x2, .int x3]) (rest := []) C 2 (c_M_noGust l x2 x3 r2 hr2) s_M_noGust kw_233 rfl ⟨Nat.le_of_ble_eq_true rfl, Nat.le_of_ble_eq_true rfl⟩ ⟨rfl, rfl⟩ d_M_lost_15 rfl rfl (Nat.le_of_ble_eq_true rfl) ?_
    refine g_if_eq (pc1 := 21) C 26 d_M_lost_18 rfl (by decide) (fun c1 => ?_) (fun c1 => ?_)
    · replace hF := ite_t hF c1
      refine g_aload_n (pc1 := 27) C d_M_lost_26 rfl rfl 0 rfl ?_
      refine g_aload_n (pc1 := 28) C d_M_lost_27 rfl rfl 0 rfl ?_
      refine get_WM_0_field (pc1 := 31) C hK kw_172 d_M_lost_28 rfl ?_
      refine g_iconst (pc1 := 32) (v := (1 : Int32)) C d_M_lost_31 rfl ic_1 ?_
      have hg := gd_some hF
      replace hF := hg.2
      refine g_iald (pc1 := 33) C hK 2 (f := (μ.1 2)) rfl hg.1 d_M_lost_32 rfl ?_
      refine g_iconst (pc1 := 34) (v := (1 : Int32)) C d_M_lost_33 rfl ic_1 ?_
      refine g_iload_n (pc1 := 35) C d_M_lost_34 rfl rfl 1 rfl ?_
      refine g_ishl (pc1 := 36) C d_M_lost_35 rfl ?_
      refine g_iconst (pc1 := 37) (v := (-1 : Int32)) C d_M_lost_36 rfl ic_m1 ?_
      refine g_ixor (pc1 := 38) C d_M_lost_37 rfl ?_
      refine g_iand (pc1 := 39) C d_M_lost_38 rfl ?_
      refine g_iload_n (pc1 := 40) C d_M_lost_39 rfl rfl 2 rfl ?_
      refine g_iload_n (pc1 := 41) C d_M_lost_40 rfl rfl 3 rfl ?_
      obtain ⟨⟨r3, m3⟩, hm3, hF⟩ := bnd_some hF
      refine g_callVI (pc1 := 44) (ws1 := WM a cs m3) (As := [.int (((μ.1 2) (1 : Int32).toNatClampNeg) &&& (((1 : Int32) <<< (x1 &&& 31)) ^^^ (-1 : Int32))), .int x2, .int x3]) (rest := []) (b := a 0) C hK 3 (c_M_behind l D cs a (stI μ 0 0 (0 : Int32)) (((μ.1 2) (1 : Int32).toNatClampNeg) &&& (((1 : Int32) <<< (x1 &&& 31)) ^^^ (-1 : Int32))) x2 x3 r3 m3 hm3) s_M_behind kw_236 0 rfl rfl rfl ⟨Nat.le_of_ble_eq_true rfl, Nat.le_of_ble_eq_true rfl⟩ ⟨rfl, rfl⟩ d_M_lost_41 rfl rfl (Nat.le_of_ble_eq_true rfl) ?_
      refine g_if_ne (pc1 := 47) C 51 d_M_lost_44 rfl (by decide) (fun c1 => ?_) (fun c1 => ?_)
      · replace hF := ite_f hF c1
        refine g_iconst (pc1 := 52) (v := (0 : Int32)) C d_M_lost_51 rfl ic_0 ?_
        exact g_iret C hr hlk d_M_lost_52 (fst_of hF) (congrArg (WM a cs) (snd_of hF))
      · replace hF := ite_t hF c1
        refine g_iconst (pc1 := 48) (v := (1 : Int32)) C d_M_lost_47 rfl ic_1 ?_
        refine g_goto C 52 d_M_lost_48 (by decide) ?_
        exact g_iret C hr hlk d_M_lost_52 (fst_of hF) (congrArg (WM a cs) (snd_of hF))
    · replace hF := ite_f hF c1
      exact g_sub [0] rfl (p_M_lost_21 C hK hr hlk  (stI μ 0 0 (0 : Int32)) hF)
-- TentPegsModel.bearsBy(I)I
set_option maxHeartbeats 4000000 in
set_option maxRecDepth 100000 in
theorem p_M_bearsBy_2 {p : Program} {l : Launch} {e : Env} {s : State} {m : MethodId} {args : Array Value} {below : List Frame} {meth : Method} {c : Code} {D : va_G} {cs : Nat → ClassId} {a : Nat → Nat} {μ : Mem} {r : Int32} (C : Cx p s m args c b_M_bearsBy 3 "TentPegsModel") (hK : va_K D classes (tys cs) s) (hr : meth.sig.returnType = (some .int)) (hlk : meth.locks = false)  : ∀ (x1 : Int32) (x2 : Int32), F_M_bearsBy_2  μ x1 x2 = some r → G p l e { frames := 5, cells := 0, slots := 0, locals := 119 } s m args below meth c (MQ below (Qi (AM a) D (WM a cs μ) r) args s 0 0 (AM a)) D (AM a) 3 (WM a cs μ) 2 [(0, .ref (a 0)), (1, .int x1), (2, .int x2)] [] := by
  refine iter_ind (fun (K2 : Mem → Int32 → Int32 → Option Int32) => ∀ (x1 : Int32) (x2 : Int32), K2 μ x1 x2 = some r → G p l e { frames := 5, cells := 0, slots := 0, locals := 119 } s m args below meth c (MQ below (Qi (AM a) D (WM a cs μ) r) args s 0 0 (AM a)) D (AM a) 3 (WM a cs μ) 2 [(0, .ref (a 0)), (1, .int x1), (2, .int x2)] []) ?_ ?_ NF
  · intro x1 x2 hF
    exact none_no hF
  · intro K2 hK2 x1 x2 hF
    unfold S_M_bearsBy_2 at hF
    refine g_iload_n (pc1 := 3) C d_M_bearsBy_2 rfl rfl 2 rfl ?_
    refine g_bipush (pc1 := 5) (v := (60 : Int32)) C d_M_bearsBy_3 rfl bp_60 ?_
    refine g_icmp_ge (pc1 := 8) C 25 d_M_bearsBy_5 rfl (by decide) (fun c1 => ?_) (fun c1 => ?_)
    · replace hF := ite_t hF c1
      refine g_iload_n (pc1 := 26) C d_M_bearsBy_25 rfl rfl 2 rfl ?_
      exact g_iret C hr hlk d_M_bearsBy_26 (Option.some.inj hF) rfl
    · replace hF := ite_f hF c1
      refine g_aload_n (pc1 := 9) C d_M_bearsBy_8 rfl rfl 0 rfl ?_
      refine g_iload_n (pc1 := 10) C d_M_bearsBy_9 rfl rfl 1 rfl ?_
      refine g_iload_n (pc1 := 11) C d_M_bearsBy_10 rfl rfl 2 rfl ?_
      refine g_iconst (pc1 := 12) (v := (1 : Int32)) C d_M_bearsBy_11 rfl ic_1 ?_
      refine g_iadd (pc1 := 13) C d_M_bearsBy_12 rfl ?_
      obtain ⟨r1, hr1, hF⟩ := bnd_some hF
      refine g_callVI (pc1 := 16) (ws1 := WM a cs μ) (As := [.int x1, .int (x2 + (1 : Int32))]) (rest := []) (b := a 0) C hK 2 (c_M_takesNoneNow l D cs a μ x1 (x2 + (1 : Int32)) r1 hr1) s_M_takesNoneNow kw_239 0 rfl rfl rfl ⟨Nat.le_of_ble_eq_true rfl, Nat.le_of_ble_eq_true rfl⟩ ⟨rfl, rfl⟩ d_M_bearsBy_13 rfl rfl (Nat.le_of_ble_eq_true rfl) ?_
      refine g_if_eq (pc1 := 19) C 25 d_M_bearsBy_16 rfl (by decide) (fun c1 => ?_) (fun c1 => ?_)
      · replace hF := ite_t hF c1
        refine g_iload_n (pc1 := 26) C d_M_bearsBy_25 rfl rfl 2 rfl ?_
        exact g_iret C hr hlk d_M_bearsBy_26 (Option.some.inj hF) rfl
      · replace hF := ite_f hF c1
        refine g_iinc (pc1 := 22) (v := (x2 + (1 : Int32))) (L1 := [(2, .int (x2 + (1 : Int32))), (0, .ref (a 0)), (1, .int x1)]) C d_M_bearsBy_19 rfl 2 rfl (by rw [ic_1]) (by decide) rfl ?_
        refine g_goto C 2 d_M_bearsBy_22 (by decide) ?_
        exact g_sub [1, 2, 0] rfl (hK2 x1 (x2 + (1 : Int32)) hF)
set_option maxHeartbeats 4000000 in
set_option maxRecDepth 100000 in
theorem c_M_bearsBy (l : Launch) (D : va_G) (cs : Nat → ClassId) (a : Nat → Nat) (μ : Mem) (x1 : Int32) (r : Int32) (hF : F_M_bearsBy μ x1 = some r) : MetI l y_M_bearsBy b_M_bearsBy 3 (some .int) { frames := 5, cells := 0, slots := 0, locals := 119 } D cs (AM a) (WM a cs μ) [.ref (a 0), .int x1] r (WM a cs μ) := by
  refine met_of rfl (by decide +kernel) (Nat.le_of_ble_eq_true rfl) (fun p e s m below meth c C hK hr hlk => ?_)
  unfold F_M_bearsBy at hF
  show G p l e { frames := 5, cells := 0, slots := 0, locals := 119 } s m _ below meth c _ D (AM a) 3 (WM a cs μ) 0 [(0, .ref (a 0)), (1, .int x1)] []
  refine g_iconst (pc1 := 1) (v := (0 : Int32)) C d_M_bearsBy_0 rfl ic_0 ?_
  refine g_istore_n (pc1 := 2) (L1 := [(2, .int (0 : Int32)), (0, .ref (a 0)), (1, .int x1)]) C d_M_bearsBy_1 rfl rfl (by decide) rfl ?_
  exact g_sub [1, 2, 0] rfl (p_M_bearsBy_2 C hK hr hlk  x1 (0 : Int32) hF)
-- TentPegsModel.leastWay()I
set_option maxHeartbeats 4000000 in
set_option maxRecDepth 100000 in
theorem p_M_leastWay_4 {p : Program} {l : Launch} {e : Env} {s : State} {m : MethodId} {args : Array Value} {below : List Frame} {meth : Method} {c : Code} {D : va_G} {cs : Nat → ClassId} {a : Nat → Nat} {μ : Mem} {r : Int32} (C : Cx p s m args c b_M_leastWay 3 "TentPegsModel") (hK : va_K D classes (tys cs) s) (hr : meth.sig.returnType = (some .int)) (hlk : meth.locks = false)  : ∀ (x1 : Int32) (x2 : Int32), F_M_leastWay_4  μ x1 x2 = some r → G p l e { frames := 6, cells := 0, slots := 0, locals := 141 } s m args below meth c (MQ below (Qi (AM a) D (WM a cs μ) r) args s 0 0 (AM a)) D (AM a) 3 (WM a cs μ) 4 [(0, .ref (a 0)), (1, .int x1), (2, .int x2)] [] := by
  refine iter_ind (fun (K4 : Mem → Int32 → Int32 → Option Int32) => ∀ (x1 : Int32) (x2 : Int32), K4 μ x1 x2 = some r → G p l e { frames := 6, cells := 0, slots := 0, locals := 141 } s m args below meth c (MQ below (Qi (AM a) D (WM a cs μ) r) args s 0 0 (AM a)) D (AM a) 3 (WM a cs μ) 4 [(0, .ref (a 0)), (1, .int x1), (2, .int x2)] []) ?_ ?_ NF
  · intro x1 x2 hF
    exact none_no hF
  · intro K4 hK4 x1 x2 hF
    unfold S_M_leastWay_4 at hF
    refine g_iload_n (pc1 := 5) C d_M_leastWay_4 rfl rfl 2 rfl ?_
    refine g_bipush (pc1 := 7) (v := (8 : Int32)) C d_M_leastWay_5 rfl bp_8 ?_
    refine g_icmp_ge (pc1 := 10) C 35 d_M_leastWay_7 rfl (by decide) (fun c1 => ?_) (fun c1 => ?_)
    · replace hF := ite_t hF c1
      refine g_iload_n (pc1 := 36) C d_M_leastWay_35 rfl rfl 1 rfl ?_
      exact g_iret C hr hlk d_M_leastWay_36 (Option.some.inj hF) rfl
    · replace hF := ite_f hF c1
      refine g_aload_n (pc1 := 11) C d_M_leastWay_10 rfl rfl 0 rfl ?_
      refine g_iload_n (pc1 := 12) C d_M_leastWay_11 rfl rfl 2 rfl ?_
      obtain ⟨r1, hr1, hF⟩ := bnd_some hF
      refine g_callVI (pc1 := 15) (ws1 := WM a cs μ) (As := [.int x2]) (rest := []) (b := a 0) C hK 1 (c_M_bearsBy l D cs a μ x2 r1 hr1) s_M_bearsBy kw_240 0 rfl rfl rfl ⟨Nat.le_of_ble_eq_true rfl, Nat.le_of_ble_eq_true rfl⟩ ⟨rfl, rfl⟩ d_M_leastWay_12 rfl rfl (Nat.le_of_ble_eq_true rfl) ?_
      refine g_aload_n (pc1 := 16) C d_M_leastWay_15 rfl rfl 0 rfl ?_
      refine g_iload_n (pc1 := 17) C d_M_leastWay_16 rfl rfl 1 rfl ?_
      obtain ⟨r2, hr2, hF⟩ := bnd_some hF
      refine g_callVI (pc1 := 20) (ws1 := WM a cs μ) (As := [.int x1]) (rest := [.int r1]) (b := a 0) C hK 1 (c_M_bearsBy l D cs a μ x1 r2 hr2) s_M_bearsBy kw_240 0 rfl rfl rfl ⟨Nat.le_of_ble_eq_true rfl, Nat.le_of_ble_eq_true rfl⟩ ⟨rfl, rfl⟩ d_M_leastWay_17 rfl rfl (Nat.le_of_ble_eq_true rfl) ?_
      refine g_icmp_ge (pc1 := 23) C 27 d_M_leastWay_20 rfl (by decide) (fun c1 => ?_) (fun c1 => ?_)
      · replace hF := ite_t hF c1
        refine g_iload_n (pc1 := 28) C d_M_leastWay_27 rfl rfl 1 rfl ?_
        refine g_istore_n (pc1 := 29) (L1 := [(1, .int x1), (0, .ref (a 0)), (2, .int x2)]) C d_M_leastWay_28 rfl rfl (by decide) rfl ?_
        refine g_iinc (pc1 := 32) (v := (x2 + (1 : Int32))) (L1 := [(2, .int (x2 + (1 : Int32))), (1, .int x1), (0, .ref (a 0))]) C d_M_leastWay_29 rfl 2 rfl (by rw [ic_1]) (by decide) rfl ?_
        refine g_goto C 4 d_M_leastWay_32 (by decide) ?_
        exact g_sub [2, 1, 0] rfl (hK4 x1 (x2 + (1 : Int32)) hF)
      · replace hF := ite_f hF c1
        refine g_iload_n (pc1 := 24) C d_M_leastWay_23 rfl rfl 2 rfl ?_
        refine g_goto C 28 d_M_leastWay_24 (by decide) ?_
        refine g_istore_n (pc1 := 29) (L1 := [(1, .int x2), (0, .ref (a 0)), (2, .int x2)]) C d_M_leastWay_28 rfl rfl (by decide) rfl ?_
        refine g_iinc (pc1 := 32) (v := (x2 + (1 : Int32))) (L1 := [(2, .int (x2 + (1 : Int32))), (1, .int x2), (0, .ref (a 0))]) C d_M_leastWay_29 rfl 2 rfl (by rw [ic_1]) (by decide) rfl ?_
        refine g_goto C 4 d_M_leastWay_32 (by decide) ?_
        exact g_sub [2, 1, 0] rfl (hK4 x2 (x2 + (1 : Int32)) hF)
set_option maxHeartbeats 4000000 in
set_option maxRecDepth 100000 in
theorem c_M_leastWay (l : Launch) (D : va_G) (cs : Nat → ClassId) (a : Nat → Nat) (μ : Mem)  (r : Int32) (hF : F_M_leastWay μ = some r) : MetI l y_M_leastWay b_M_leastWay 3 (some .int) { frames := 6, cells := 0, slots := 0, locals := 141 } D cs (AM a) (WM a cs μ) [.ref (a 0)] r (WM a cs μ) := by
  refine met_of rfl (by decide +kernel) (Nat.le_of_ble_eq_true rfl) (fun p e s m below meth c C hK hr hlk => ?_)
  unfold F_M_leastWay at hF
  show G p l e { frames := 6, cells := 0, slots := 0, locals := 141 } s m _ below meth c _ D (AM a) 3 (WM a cs μ) 0 [(0, .ref (a 0))] []
  refine g_iconst (pc1 := 1) (v := (0 : Int32)) C d_M_leastWay_0 rfl ic_0 ?_
  refine g_istore_n (pc1 := 2) (L1 := [(1, .int (0 : Int32)), (0, .ref (a 0))]) C d_M_leastWay_1 rfl rfl (by decide) rfl ?_
  refine g_iconst (pc1 := 3) (v := (1 : Int32)) C d_M_leastWay_2 rfl ic_1 ?_
  refine g_istore_n (pc1 := 4) (L1 := [(2, .int (1 : Int32)), (1, .int (0 : Int32)), (0, .ref (a 0))]) C d_M_leastWay_3 rfl rfl (by decide) rfl ?_
  exact g_sub [2, 1, 0] rfl (p_M_leastWay_4 C hK hr hlk  (0 : Int32) (1 : Int32) hF)
-- TentPegsModel.bears(I)I
set_option maxHeartbeats 4000000 in
set_option maxRecDepth 100000 in
theorem p_M_bears_22 {p : Program} {l : Launch} {e : Env} {s : State} {m : MethodId} {args : Array Value} {below : List Frame} {meth : Method} {c : Code} {D : va_G} {cs : Nat → ClassId} {a : Nat → Nat} {r : Int32} {μ1 : Mem} (C : Cx p s m args c b_M_bears 2 "TentPegsModel") (hK : va_K D classes (tys cs) s) (hr : meth.sig.returnType = (some .int)) (hlk : meth.locks = false)  (μ : Mem) (x1 : Int32) (hF : F_M_bears_22  μ x1 = some (r, μ1)) : G p l e { frames := 7, cells := 0, slots := 0, locals := 163 } s m args below meth c (MQ below (Qi (AM a) D (WM a cs μ1) r) args s 0 0 (AM a)) D (AM a) 2 (WM a cs μ) 22 [(0, .ref (a 0)), (1, .int x1)] [] := by
  unfold F_M_bears_22 at hF
  refine g_iload_n (pc1 := 23) C d_M_bears_22 rfl rfl 1 rfl ?_
  refine g_iconst (pc1 := 24) (v := (-1 : Int32)) C d_M_bears_23 rfl ic_m1 ?_
  refine g_icmp_ne (pc1 := 27) C 34 d_M_bears_24 rfl (by decide) (fun c1 => ?_) (fun c1 => ?_)
  · replace hF := ite_f hF c1
    refine g_aload_n (pc1 := 35) C d_M_bears_34 rfl rfl 0 rfl ?_
    refine g_iload_n (pc1 := 36) C d_M_bears_35 rfl rfl 1 rfl ?_
    obtain ⟨r1, hr1, hF⟩ := bnd_some hF
    refine g_callVI (pc1 := 39) (ws1 := WM a cs μ) (As := [.int x1]) (rest := []) (b := a 0) C hK 1 (c_M_bearsBy l D cs a μ x1 r1 hr1) s_M_bearsBy kw_240 0 rfl rfl rfl ⟨Nat.le_of_ble_eq_true rfl, Nat.le_of_ble_eq_true rfl⟩ ⟨rfl, rfl⟩ d_M_bears_36 rfl rfl (Nat.le_of_ble_eq_true rfl) ?_
    exact g_iret C hr hlk d_M_bears_39 (fst_of hF) (congrArg (WM a cs) (snd_of hF))
  · replace hF := ite_t hF c1
    refine g_aload_n (pc1 := 28) C d_M_bears_27 rfl rfl 0 rfl ?_
    obtain ⟨r2, hr2, hF⟩ := bnd_some hF
    refine g_callVI (pc1 := 31) (ws1 := WM a cs μ) (As := []) (rest := []) (b := a 0) C hK 0 (c_M_leastWay l D cs a μ  r2 hr2) s_M_leastWay kw_241 0 rfl rfl rfl ⟨Nat.le_of_ble_eq_true rfl, Nat.le_of_ble_eq_true rfl⟩ ⟨rfl, rfl⟩ d_M_bears_28 rfl rfl (Nat.le_of_ble_eq_true rfl) ?_
    refine g_goto C 39 d_M_bears_31 (by decide) ?_
    exact g_iret C hr hlk d_M_bears_39 (fst_of hF) (congrArg (WM a cs) (snd_of hF))
set_option maxHeartbeats 4000000 in
set_option maxRecDepth 100000 in
theorem c_M_bears (l : Launch) (D : va_G) (cs : Nat → ClassId) (a : Nat → Nat) (μ : Mem) (x1 : Int32) (r : Int32) (μ1 : Mem) (hF : F_M_bears μ x1 = some (r, μ1)) : MetI l y_M_bears b_M_bears 2 (some .int) { frames := 7, cells := 0, slots := 0, locals := 163 } D cs (AM a) (WM a cs μ) [.ref (a 0), .int x1] r (WM a cs μ1) := by
  refine met_of rfl (by decide +kernel) (Nat.le_of_ble_eq_true rfl) (fun p e s m below meth c C hK hr hlk => ?_)
  unfold F_M_bears at hF
  show G p l e { frames := 7, cells := 0, slots := 0, locals := 163 } s m _ below meth c _ D (AM a) 2 (WM a cs μ) 0 [(0, .ref (a 0)), (1, .int x1)] []
  refine g_aload_n (pc1 := 1) C d_M_bears_0 rfl rfl 0 rfl ?_
  refine g_iconst (pc1 := 2) (v := (0 : Int32)) C d_M_bears_1 rfl ic_0 ?_
  refine put_WM_0_thrown (pc1 := 5) C hK kw_178 d_M_bears_2 rfl ?_
  refine g_iload_n (pc1 := 6) C d_M_bears_5 rfl rfl 1 rfl ?_
  refine g_iconst (pc1 := 7) (v := (-1 : Int32)) C d_M_bears_6 rfl ic_m1 ?_
  refine g_icmp_eq (pc1 := 10) C 22 d_M_bears_7 rfl (by decide) (fun c1 => ?_) (fun c1 => ?_)
  · replace hF := ite_t hF c1
    exact g_sub [0, 1] rfl (p_M_bears_22 C hK hr hlk  (stI μ 0 0 (0 : Int32)) x1 hF)
  · replace hF := ite_f hF c1
    refine g_iload_n (pc1 := 11) C d_M_bears_10 rfl rfl 1 rfl ?_
    obtain ⟨r1, hr1, hF⟩ := bnd_some hF
    refine g_callSI (pc1 := 14) (As := [.int x1]) (rest := []) C 1 (c_M_noWay l x1 r1 hr1) s_M_noWay kw_175 rfl ⟨Nat.le_of_ble_eq_true rfl, Nat.le_of_ble_eq_true rfl⟩ ⟨rfl, rfl⟩ d_M_bears_11 rfl rfl (Nat.le_of_ble_eq_true rfl) ?_
    refine g_if_eq (pc1 := 17) C 22 d_M_bears_14 rfl (by decide) (fun c1 => ?_) (fun c1 => ?_)
    · replace hF := ite_t hF c1
      exact g_sub [0, 1] rfl (p_M_bears_22 C hK hr hlk  (stI μ 0 0 (0 : Int32)) x1 hF)
    · replace hF := ite_f hF c1
      refine g_aload_n (pc1 := 18) C d_M_bears_17 rfl rfl 0 rfl ?_
      obtain ⟨⟨r2, m2⟩, hm2, hF⟩ := bnd_some hF
      refine g_callVI (pc1 := 21) (ws1 := WM a cs m2) (As := []) (rest := []) (b := a 0) C hK 0 (c_M_badTen l D cs a (stI μ 0 0 (0 : Int32))  r2 m2 hm2) s_M_badTen kw_238 0 rfl rfl rfl ⟨Nat.le_of_ble_eq_true rfl, Nat.le_of_ble_eq_true rfl⟩ ⟨rfl, rfl⟩ d_M_bears_18 rfl rfl (Nat.le_of_ble_eq_true rfl) ?_
      exact g_iret C hr hlk d_M_bears_21 (fst_of hF) (congrArg (WM a cs) (snd_of hF))
-- TentPegsModel.bearsWith(II)I
set_option maxHeartbeats 4000000 in
set_option maxRecDepth 100000 in
theorem c_M_bearsWith (l : Launch) (D : va_G) (cs : Nat → ClassId) (a : Nat → Nat) (μ : Mem) (x1 : Int32) (x2 : Int32) (r : Int32) (μ1 : Mem) (hF : F_M_bearsWith μ x1 x2 = some (r, μ1)) : MetI l y_M_bearsWith b_M_bearsWith 6 (some .int) { frames := 7, cells := 0, slots := 0, locals := 163 } D cs (AM a) (WM a cs μ) [.ref (a 0), .int x1, .int x2] r (WM a cs μ1) := by
  refine met_of rfl (by decide +kernel) (Nat.le_of_ble_eq_true rfl) (fun p e s m below meth c C hK hr hlk => ?_)
  unfold F_M_bearsWith at hF
  show G p l e { frames := 7, cells := 0, slots := 0, locals := 163 } s m _ below meth c _ D (AM a) 6 (WM a cs μ) 0 [(0, .ref (a 0)), (1, .int x1), (2, .int x2)] []
  refine g_aload_n (pc1 := 1) C d_M_bearsWith_0 rfl rfl 0 rfl ?_
  refine get_WM_0_field (pc1 := 4) C hK kw_172 d_M_bearsWith_1 rfl ?_
  refine g_iconst (pc1 := 5) (v := (5 : Int32)) C d_M_bearsWith_4 rfl ic_5 ?_
  refine g_iload_n (pc1 := 6) C d_M_bearsWith_5 rfl rfl 1 rfl ?_
  refine g_iadd (pc1 := 7) C d_M_bearsWith_6 rfl ?_
  have hg := gd_some hF
  replace hF := hg.2
  refine g_iald (pc1 := 8) C hK 2 (f := (μ.1 2)) rfl hg.1 d_M_bearsWith_7 rfl ?_
  refine g_istore_n (pc1 := 9) (L1 := [(3, .int ((μ.1 2) ((5 : Int32) + x1).toNatClampNeg)), (0, .ref (a 0)), (1, .int x1), (2, .int x2)]) C d_M_bearsWith_8 rfl rfl (by decide) rfl ?_
  refine g_aload_n (pc1 := 10) C d_M_bearsWith_9 rfl rfl 1 rfl ?_
  refine get_WM_0_field (pc1 := 13) C hK kw_172 d_M_bearsWith_10 rfl ?_
  refine g_iconst (pc1 := 14) (v := (5 : Int32)) C d_M_bearsWith_13 rfl ic_5 ?_
  refine g_iload_n (pc1 := 15) C d_M_bearsWith_14 rfl rfl 3 rfl ?_
  refine g_iadd (pc1 := 16) C d_M_bearsWith_15 rfl ?_
  have hg := gd_some hF
  replace hF := hg.2
  refine g_iald (pc1 := 17) C hK 2 (f := (μ.1 2)) rfl hg.1 d_M_bearsWith_16 rfl ?_
  refine g_istore (pc1 := 19) (L1 := [(4, .int ((μ.1 2) ((5 : Int32) + x2).toNatClampNeg)), (3, .int ((μ.1 2) ((5 : Int32) + x1).toNatClampNeg)), (0, .ref (a 0)), (1, .int x1), (2, .int x2)]) C d_M_bearsWith_17 rfl (by decide) rfl ?_
  refine g_aload_n (pc1 := 20) C d_M_bearsWith_19 rfl rfl 2 rfl ?_
  refine get_WM_0_field (pc1 := 23) C hK kw_172 d_M_bearsWith_20 rfl ?_
  refine g_iconst (pc1 := 24) (v := (5 : Int32)) C d_M_bearsWith_23 rfl ic_5 ?_
  refine g_iload_n (pc1 := 25) C d_M_bearsWith_24 rfl rfl 3 rfl ?_
  refine g_iadd (pc1 := 26) C d_M_bearsWith_25 rfl ?_
  refine g_iconst (pc1 := 27) (v := (1 : Int32)) C d_M_bearsWith_26 rfl ic_1 ?_
  have hg := gd_some hF
  replace hF := hg.2
  refine g_iast (pc1 := 28) (ws1 := WM a cs (stI μ 2 ((5 : Int32) + x1).toNatClampNeg (1 : Int32))) C hK 2 (f := (μ.1 2)) rfl hg.1 (set_WM_2 _ _ _ _ _) d_M_bearsWith_27 rfl ?_
  refine g_aload_n (pc1 := 29) C d_M_bearsWith_28 rfl rfl 2 rfl ?_
  refine get_WM_0_field (pc1 := 32) C hK kw_172 d_M_bearsWith_29 rfl ?_
  refine g_iconst (pc1 := 33) (v := (5 : Int32)) C d_M_bearsWith_32 rfl ic_5 ?_
  refine g_iload_n (pc1 := 34) C d_M_bearsWith_33 rfl rfl 4 rfl ?_
  refine g_iadd (pc1 := 35) C d_M_bearsWith_34 rfl ?_
  refine g_iconst (pc1 := 36) (v := (1 : Int32)) C d_M_bearsWith_35 rfl ic_1 ?_
  have hg := gd_some hF
  replace hF := hg.2
  refine g_iast (pc1 := 37) (ws1 := WM a cs (stI (stI μ 2 ((5 : Int32) + x1).toNatClampNeg (1 : Int32)) 2 ((5 : Int32) + x2).toNatClampNeg (1 : Int32))) C hK 2 (f := ((stI μ 2 ((5 : Int32) + x1).toNatClampNeg (1 : Int32)).1 2)) rfl hg.1 (set_WM_2 _ _ _ _ _) d_M_bearsWith_36 rfl ?_
  refine g_aload_n (pc1 := 38) C d_M_bearsWith_37 rfl rfl 2 rfl ?_
  refine g_aload_n (pc1 := 39) C d_M_bearsWith_38 rfl rfl 2 rfl ?_
  obtain ⟨r1, hr1, hF⟩ := bnd_some hF
  refine g_callVI (pc1 := 42) (ws1 := WM a cs (stI (stI μ 2 ((5 : Int32) + x1).toNatClampNeg (1 : Int32)) 2 ((5 : Int32) + x2).toNatClampNeg (1 : Int32))) (As := []) (rest := [.ref (a 0)]) (b := a 0) C hK 0 (c_M_leastWay l D cs a (stI (stI μ 2 ((5 : Int32) + x1).toNatClampNeg (1 : Int32)) 2 ((5 : Int32) + x2).toNatClampNeg (1 : Int32))  r1 hr1) s_M_leastWay kw_241 0 rfl rfl rfl ⟨Nat.le_of_ble_eq_true rfl, Nat.le_of_ble_eq_true rfl⟩ ⟨rfl, rfl⟩ d_M_bearsWith_39 rfl rfl (Nat.le_of_ble_eq_true rfl) ?_
  obtain ⟨r2, hr2, hF⟩ := bnd_some hF
  refine g_callVI (pc1 := 45) (ws1 := WM a cs (stI (stI μ 2 ((5 : Int32) + x1).toNatClampNeg (1 : Int32)) 2 ((5 : Int32) + x2).toNatClampNeg (1 : Int32))) (As := [.int r1]) (rest := []) (b := a 0) C hK 1 (c_M_bearsBy l D cs a (stI (stI μ 2 ((5 : Int32) + x1).toNatClampNeg (1 : Int32)) 2 ((5 : Int32) + x2).toNatClampNeg (1 : Int32)) r1 r2 hr2) s_M_bearsBy kw_240 0 rfl rfl rfl ⟨Nat.le_of_ble_eq_true rfl, Nat.le_of_ble_eq_true rfl⟩ ⟨rfl, rfl⟩ d_M_bearsWith_42 rfl rfl (Nat.le_of_ble_eq_true rfl) ?_
  refine g_istore (pc1 := 47) (L1 := [(5, .int r2), (4, .int ((μ.1 2) ((5 : Int32) + x2).toNatClampNeg)), (3, .int ((μ.1 2) ((5 : Int32) + x1).toNatClampNeg)), (0, .ref (a 0)), (1, .int x1), (2, .int x2)]) C d_M_bearsWith_45 rfl (by decide) rfl ?_
  refine g_aload_n (pc1 := 48) C d_M_bearsWith_47 rfl rfl 3 rfl ?_
  refine get_WM_0_field (pc1 := 51) C hK kw_172 d_M_bearsWith_48 rfl ?_
  refine g_iconst (pc1 := 52) (v := (5 : Int32)) C d_M_bearsWith_51 rfl ic_5 ?_
  refine g_iload_n (pc1 := 53) C d_M_bearsWith_52 rfl rfl 4 rfl ?_
  refine g_iadd (pc1 := 54) C d_M_bearsWith_53 rfl ?_
  refine g_iload_n (pc1 := 55) C d_M_bearsWith_54 rfl rfl 2 rfl ?_
  have hg := gd_some hF
  replace hF := hg.2
  refine g_iast (pc1 := 56) (ws1 := WM a cs (stI (stI (stI μ 2 ((5 : Int32) + x1).toNatClampNeg (1 : Int32)) 2 ((5 : Int32) + x2).toNatClampNeg (1 : Int32)) 2 ((5 : Int32) + x1).toNatClampNeg ((μ.1 2) ((5 : Int32) + x1).toNatClampNeg))) C hK 2 (f := ((stI (stI μ 2 ((5 : Int32) + x1).toNatClampNeg (1 : Int32)) 2 ((5 : Int32) + x2).toNatClampNeg (1 : Int32)).1 2)) rfl hg.1 (set_WM_2 _ _ _ _ _) d_M_bearsWith_55 rfl ?_
  refine g_aload_n (pc1 := 57) C d_M_bearsWith_56 rfl rfl 3 rfl ?_
  refine get_WM_0_field (pc1 := 60) C hK kw_172 d_M_bearsWith_57 rfl ?_
  refine g_iconst (pc1 := 61) (v := (5 : Int32)) C d_M_bearsWith_60 rfl ic_5 ?_
  refine g_iload_n (pc1 := 62) C d_M_bearsWith_61 rfl rfl 5 rfl ?_
  refine g_iadd (pc1 := 63) C d_M_bearsWith_62 rfl ?_
  refine g_iload_n (pc1 := 64) C d_M_bearsWith_63 rfl rfl 4 rfl ?_
  refine g_iload_n (pc1 := 65) C d_M_bearsWith_64 rfl rfl 5 rfl ?_
  refine g_icmp_ne (pc1 := 68) C 72 d_M_bearsWith_65 rfl (by decide) (fun c1 => ?_) (fun c1 => ?_)
  · replace hF := ite_f hF c1
    refine g_iload (pc1 := 74) C d_M_bearsWith_72 rfl 1 rfl ?_
    have hg := gd_some hF
    replace hF := hg.2
    refine g_iast (pc1 := 75) (ws1 := WM a cs (stI (stI (stI (stI μ 2 ((5 : Int32) + x1).toNatClampNeg (1 : Int32)) 2 ((5 : Int32) + x2).toNatClampNeg (1 : Int32)) 2 ((5 : Int32) + x1).toNatClampNeg ((μ.1 2) ((5 : Int32) + x1).toNatClampNeg)) 2 ((5 : Int32) + x2).toNatClampNeg ((μ.1 2) ((5 : Int32) + x2).toNatClampNeg))) C hK 2 (f := ((stI (stI (stI μ 2 ((5 : Int32) + x1).toNatClampNeg (1 : Int32)) 2 ((5 : Int32) + x2).toNatClampNeg (1 : Int32)) 2 ((5 : Int32) + x1).toNatClampNeg ((μ.1 2) ((5 : Int32) + x1).toNatClampNeg)).1 2)) rfl hg.1 (set_WM_2 _ _ _ _ _) d_M_bearsWith_74 rfl ?_
    refine g_iload (pc1 := 77) C d_M_bearsWith_75 rfl 0 rfl ?_
    exact g_iret C hr hlk d_M_bearsWith_77 (fst_of hF) (congrArg (WM a cs) (snd_of hF))
  · replace hF := ite_t hF c1
    refine g_iload_n (pc1 := 69) C d_M_bearsWith_68 rfl rfl 2 rfl ?_
    refine g_goto C 74 d_M_bearsWith_69 (by decide) ?_
    have hg := gd_some hF
    replace hF := hg.2
    refine g_iast (pc1 := 75) (ws1 := WM a cs (stI (stI (stI (stI μ 2 ((5 : Int32) + x1).toNatClampNeg (1 : Int32)) 2 ((5 : Int32) + x2).toNatClampNeg (1 : Int32)) 2 ((5 : Int32) + x1).toNatClampNeg ((μ.1 2) ((5 : Int32) + x1).toNatClampNeg)) 2 ((5 : Int32) + x2).toNatClampNeg ((μ.1 2) ((5 : Int32) + x1).toNatClampNeg))) C hK 2 (f := ((stI (stI (stI μ 2 ((5 : Int32) + x1).toNatClampNeg (1 : Int32)) 2 ((5 : Int32) + x2).toNatClampNeg (1 : Int32)) 2 ((5 : Int32) + x1).toNatClampNeg ((μ.1 2) ((5 : Int32) + x1).toNatClampNeg)).1 2)) rfl hg.1 (set_WM_2 _ _ _ _ _) d_M_bearsWith_74 rfl ?_
    refine g_iload (pc1 := 77) C d_M_bearsWith_75 rfl 0 rfl ?_
    exact g_iret C hr hlk d_M_bearsWith_77 (fst_of hF) (congrArg (WM a cs) (snd_of hF))
-- TentPegsModel.twofold(II)I
set_option maxHeartbeats 4000000 in
set_option maxRecDepth 100000 in
theorem p_M_twofold_22 {p : Program} {l : Launch} {e : Env} {s : State} {m : MethodId} {args : Array Value} {below : List Frame} {meth : Method} {c : Code} {D : va_G} {cs : Nat → ClassId} {a : Nat → Nat} {r : Int32} {μ1 : Mem} (C : Cx p s m args c b_M_twofold 9 "TentPegsModel") (hK : va_K D classes (tys cs) s) (hr : meth.sig.returnType = (some .int)) (hlk : meth.locks = false)  (μ : Mem)  (hF : F_M_twofold_22  μ = some (r, μ1)) : G p l e { frames := 8, cells := 0, slots := 0, locals := 188 } s m args below meth c (MQ below (Qi (AM a) D (WM a cs μ1) r) args s 0 0 (AM a)) D (AM a) 9 (WM a cs μ) 22 [(0, .ref (a 0))] [] := by
  unfold F_M_twofold_22 at hF
  refine g_aload_n (pc1 := 23) C d_M_twofold_22 rfl rfl 0 rfl ?_
  obtain ⟨⟨r1, m1⟩, hm1, hF⟩ := bnd_some hF
  refine g_callVI (pc1 := 26) (ws1 := WM a cs m1) (As := []) (rest := []) (b := a 0) C hK 0 (c_M_badTen l D cs a μ  r1 m1 hm1) s_M_badTen kw_238 0 rfl rfl rfl ⟨Nat.le_of_ble_eq_true rfl, Nat.le_of_ble_eq_true rfl⟩ ⟨rfl, rfl⟩ d_M_twofold_23 rfl rfl (Nat.le_of_ble_eq_true rfl) ?_
  exact g_iret C hr hlk d_M_twofold_26 (fst_of hF) (congrArg (WM a cs) (snd_of hF))
set_option maxHeartbeats 4000000 in
set_option maxRecDepth 100000 in
theorem p_M_twofold_45 {p : Program} {l : Launch} {e : Env} {s : State} {m : MethodId} {args : Array Value} {below : List Frame} {meth : Method} {c : Code} {D : va_G} {cs : Nat → ClassId} {a : Nat → Nat} {r : Int32} {μ1 : Mem} (C : Cx p s m args c b_M_twofold 9 "TentPegsModel") (hK : va_K D classes (tys cs) s) (hr : meth.sig.returnType = (some .int)) (hlk : meth.locks = false)  (μ : Mem) (x1 : Int32) (hF : F_M_twofold_45  μ x1 = some (r, μ1)) : G p l e { frames := 8, cells := 0, slots := 0, locals := 188 } s m args below meth c (MQ below (Qi (AM a) D (WM a cs μ1) r) args s 0 0 (AM a)) D (AM a) 9 (WM a cs μ) 45 [(0, .ref (a 0)), (1, .int x1)] [] := by
  unfold F_M_twofold_45 at hF
  refine g_aload_n (pc1 := 46) C d_M_twofold_45 rfl rfl 0 rfl ?_
  refine get_WM_0_field (pc1 := 49) C hK kw_172 d_M_twofold_46 rfl ?_
  refine g_iconst (pc1 := 50) (v := (1 : Int32)) C d_M_twofold_49 rfl ic_1 ?_
  have hg := gd_some hF
  replace hF := hg.2
  refine g_iald (pc1 := 51) C hK 2 (f := (μ.1 2)) rfl hg.1 d_M_twofold_50 rfl ?_
  obtain ⟨r1, hr1, hF⟩ := bnd_some hF
  refine g_callSI (pc1 := 54) (As := [.int ((μ.1 2) (1 : Int32).toNatClampNeg)]) (rest := []) C 1 (c_M_bits l ((μ.1 2) (1 : Int32).toNatClampNeg) r1 hr1) s_M_bits kw_177 rfl ⟨Nat.le_of_ble_eq_true rfl, Nat.le_of_ble_eq_true rfl⟩ ⟨rfl, rfl⟩ d_M_twofold_51 rfl rfl (Nat.le_of_ble_eq_true rfl) ?_
  refine g_iload_n (pc1 := 55) C d_M_twofold_54 rfl rfl 1 rfl ?_
  refine g_icmp_ge (pc1 := 58) C 62 d_M_twofold_55 rfl (by decide) (fun c1 => ?_) (fun c1 => ?_)
  · replace hF := ite_t hF c1
    refine g_bipush (pc1 := 64) (v := (-5 : Int32)) C d_M_twofold_62 rfl bp_m5 ?_
    exact g_iret C hr hlk d_M_twofold_64 (fst_of hF) (congrArg (WM a cs) (snd_of hF))
  · replace hF := ite_f hF c1
    refine g_iconst (pc1 := 59) (v := (-1 : Int32)) C d_M_twofold_58 rfl ic_m1 ?_
    refine g_goto C 64 d_M_twofold_59 (by decide) ?_
    exact g_iret C hr hlk d_M_twofold_64 (fst_of hF) (congrArg (WM a cs) (snd_of hF))
set_option maxHeartbeats 4000000 in
set_option maxRecDepth 100000 in
theorem p_M_twofold_192 {p : Program} {l : Launch} {e : Env} {s : State} {m : MethodId} {args : Array Value} {below : List Frame} {meth : Method} {c : Code} {D : va_G} {cs : Nat → ClassId} {a : Nat → Nat} {r : Int32} {μ1 : Mem} (C : Cx p s m args c b_M_twofold 9 "TentPegsModel") (hK : va_K D classes (tys cs) s) (hr : meth.sig.returnType = (some .int)) (hlk : meth.locks = false) (K76 : Mem → Int32 → Int32 → Int32 → Int32 → Int32 → Int32 → Option (Int32 × Mem)) (hK76 : ∀ (μ : Mem) (x1 : Int32) (x2 : Int32) (x3 : Int32) (x4 : Int32) (x5 : Int32) (x6 : Int32), K76 μ x1 x2 x3 x4 x5 x6 = some (r, μ1) → G p l e { frames := 8, cells := 0, slots := 0, locals := 188 } s m args below meth c (MQ below (Qi (AM a) D (WM a cs μ1) r) args s 0 0 (AM a)) D (AM a) 9 (WM a cs μ) 76 [(0, .ref (a 0)), (1, .int x1), (2, .int x2), (3, .int x3), (4, .int x4), (5, .int x5), (6, .int x6)] []) (K103 : Mem → Int32 → Int32 → Int32 → Int32 → Int32 → Int32 → Int32 → Option (Int32 × Mem)) (hK103 : ∀ (μ : Mem) (x1 : Int32) (x2 : Int32) (x3 : Int32) (x4 : Int32) (x5 : Int32) (x6 : Int32) (x7 : Int32), K103 μ x1 x2 x3 x4 x5 x6 x7 = some (r, μ1) → G p l e { frames := 8, cells := 0, slots := 0, locals := 188 } s m args below meth c (MQ below (Qi (AM a) D (WM a cs μ1) r) args s 0 0 (AM a)) D (AM a) 9 (WM a cs μ) 103 [(0, .ref (a 0)), (1, .int x1), (2, .int x2), (3, .int x3), (4, .int x4), (5, .int x5), (6, .int x6), (7, .int x7)] []) (μ : Mem) (x1 : Int32) (x2 : Int32) (x3 : Int32) (x4 : Int32) (x6 : Int32) (x7 : Int32) (x8 : Int32) (s0 : Int32) (hF : F_M_twofold_192 K76 K103 μ x1 x2 x3 x4 x6 x7 x8 s0 = some (r, μ1)) : G p l e { frames := 8, cells := 0, slots := 0, locals := 188 } s m args below meth c (MQ below (Qi (AM a) D (WM a cs μ1) r) args s 0 0 (AM a)) D (AM a) 9 (WM a cs μ) 192 [(0, .ref (a 0)), (1, .int x1), (2, .int x2), (3, .int x3), (4, .int x4), (6, .int x6), (7, .int x7), (8, .int x8)] [.int s0] := by
  unfold F_M_twofold_192 at hF
  refine g_istore (pc1 := 194) (L1 := [(5, .int s0), (0, .ref (a 0)), (1, .int x1), (2, .int x2), (3, .int x3), (4, .int x4), (6, .int x6), (7, .int x7), (8, .int x8)]) C d_M_twofold_192 rfl (by decide) rfl ?_
  refine g_iload (pc1 := 196) C d_M_twofold_194 rfl 8 rfl ?_
  refine g_iload_n (pc1 := 197) C d_M_twofold_196 rfl rfl 4 rfl ?_
  refine g_icmp_le (pc1 := 200) C 205 d_M_twofold_197 rfl (by decide) (fun c1 => ?_) (fun c1 => ?_)
  · replace hF := ite_t hF c1
    refine g_iload_n (pc1 := 206) C d_M_twofold_205 rfl rfl 4 rfl ?_
    refine g_istore_n (pc1 := 207) (L1 := [(3, .int x3), (5, .int s0), (0, .ref (a 0)), (1, .int x1), (2, .int x2), (4, .int x4), (6, .int x6), (7, .int x7), (8, .int x8)]) C d_M_twofold_206 rfl rfl (by decide) rfl ?_
    refine g_iinc (pc1 := 210) (v := (x7 + (1 : Int32))) (L1 := [(7, .int (x7 + (1 : Int32))), (3, .int x3), (5, .int s0), (0, .ref (a 0)), (1, .int x1), (2, .int x2), (4, .int x4), (6, .int x6), (8, .int x8)]) C d_M_twofold_207 rfl 7 rfl (by rw [ic_1]) (by decide) rfl ?_
    refine g_goto C 103 d_M_twofold_210 (by decide) ?_
    exact g_sub [3, 4, 5, 1, 6, 2, 7, 0] rfl (hK103 μ x1 x2 x3 x4 s0 x6 (x7 + (1 : Int32)) hF)
  · replace hF := ite_f hF c1
    refine g_iload (pc1 := 202) C d_M_twofold_200 rfl 8 rfl ?_
    refine g_goto C 206 d_M_twofold_202 (by decide) ?_
    refine g_istore_n (pc1 := 207) (L1 := [(3, .int x8), (5, .int s0), (0, .ref (a 0)), (1, .int x1), (2, .int x2), (4, .int x4), (6, .int x6), (7, .int x7), (8, .int x8)]) C d_M_twofold_206 rfl rfl (by decide) rfl ?_
    refine g_iinc (pc1 := 210) (v := (x7 + (1 : Int32))) (L1 := [(7, .int (x7 + (1 : Int32))), (3, .int x8), (5, .int s0), (0, .ref (a 0)), (1, .int x1), (2, .int x2), (4, .int x4), (6, .int x6), (8, .int x8)]) C d_M_twofold_207 rfl 7 rfl (by rw [ic_1]) (by decide) rfl ?_
    refine g_goto C 103 d_M_twofold_210 (by decide) ?_
    exact g_sub [3, 4, 5, 1, 6, 2, 7, 0] rfl (hK103 μ x1 x2 x8 x4 s0 x6 (x7 + (1 : Int32)) hF)
set_option maxHeartbeats 4000000 in
set_option maxRecDepth 100000 in
theorem p_M_twofold_177 {p : Program} {l : Launch} {e : Env} {s : State} {m : MethodId} {args : Array Value} {below : List Frame} {meth : Method} {c : Code} {D : va_G} {cs : Nat → ClassId} {a : Nat → Nat} {r : Int32} {μ1 : Mem} (C : Cx p s m args c b_M_twofold 9 "TentPegsModel") (hK : va_K D classes (tys cs) s) (hr : meth.sig.returnType = (some .int)) (hlk : meth.locks = false) (K76 : Mem → Int32 → Int32 → Int32 → Int32 → Int32 → Int32 → Option (Int32 × Mem)) (hK76 : ∀ (μ : Mem) (x1 : Int32) (x2 : Int32) (x3 : Int32) (x4 : Int32) (x5 : Int32) (x6 : Int32), K76 μ x1 x2 x3 x4 x5 x6 = some (r, μ1) → G p l e { frames := 8, cells := 0, slots := 0, locals := 188 } s m args below meth c (MQ below (Qi (AM a) D (WM a cs μ1) r) args s 0 0 (AM a)) D (AM a) 9 (WM a cs μ) 76 [(0, .ref (a 0)), (1, .int x1), (2, .int x2), (3, .int x3), (4, .int x4), (5, .int x5), (6, .int x6)] []) (K103 : Mem → Int32 → Int32 → Int32 → Int32 → Int32 → Int32 → Int32 → Option (Int32 × Mem)) (hK103 : ∀ (μ : Mem) (x1 : Int32) (x2 : Int32) (x3 : Int32) (x4 : Int32) (x5 : Int32) (x6 : Int32) (x7 : Int32), K103 μ x1 x2 x3 x4 x5 x6 x7 = some (r, μ1) → G p l e { frames := 8, cells := 0, slots := 0, locals := 188 } s m args below meth c (MQ below (Qi (AM a) D (WM a cs μ1) r) args s 0 0 (AM a)) D (AM a) 9 (WM a cs μ) 103 [(0, .ref (a 0)), (1, .int x1), (2, .int x2), (3, .int x3), (4, .int x4), (5, .int x5), (6, .int x6), (7, .int x7)] []) (μ : Mem) (x1 : Int32) (x2 : Int32) (x3 : Int32) (x5 : Int32) (x6 : Int32) (x7 : Int32) (x8 : Int32) (s0 : Int32) (hF : F_M_twofold_177 K76 K103 μ x1 x2 x3 x5 x6 x7 x8 s0 = some (r, μ1)) : G p l e { frames := 8, cells := 0, slots := 0, locals := 188 } s m args below meth c (MQ below (Qi (AM a) D (WM a cs μ1) r) args s 0 0 (AM a)) D (AM a) 9 (WM a cs μ) 177 [(0, .ref (a 0)), (1, .int x1), (2, .int x2), (3, .int x3), (5, .int x5), (6, .int x6), (7, .int x7), (8, .int x8)] [.int s0] := by
  unfold F_M_twofold_177 at hF
  refine g_istore (pc1 := 179) (L1 := [(4, .int s0), (0, .ref (a 0)), (1, .int x1), (2, .int x2), (3, .int x3), (5, .int x5), (6, .int x6), (7, .int x7), (8, .int x8)]) C d_M_twofold_177 rfl (by decide) rfl ?_
  refine g_iload (pc1 := 181) C d_M_twofold_179 rfl 8 rfl ?_
  refine g_iload_n (pc1 := 182) C d_M_twofold_181 rfl rfl 4 rfl ?_
  refine g_icmp_le (pc1 := 185) C 190 d_M_twofold_182 rfl (by decide) (fun c1 => ?_) (fun c1 => ?_)
  · replace hF := ite_t hF c1
    refine g_iload (pc1 := 192) C d_M_twofold_190 rfl 5 rfl ?_
    exact g_sub [1, 2, 3, 4, 0, 6, 7, 8] rfl (p_M_twofold_192 C hK hr hlk K76 hK76 K103 hK103 μ x1 x2 x3 s0 x6 x7 x8 x5 hF)
  · replace hF := ite_f hF c1
    refine g_iload (pc1 := 187) C d_M_twofold_185 rfl 7 rfl ?_
    refine g_goto C 192 d_M_twofold_187 (by decide) ?_
    exact g_sub [1, 2, 3, 4, 0, 6, 7, 8] rfl (p_M_twofold_192 C hK hr hlk K76 hK76 K103 hK103 μ x1 x2 x3 s0 x6 x7 x8 x7 hF)
set_option maxHeartbeats 4000000 in
set_option maxRecDepth 100000 in
theorem p_M_twofold_123 {p : Program} {l : Launch} {e : Env} {s : State} {m : MethodId} {args : Array Value} {below : List Frame} {meth : Method} {c : Code} {D : va_G} {cs : Nat → ClassId} {a : Nat → Nat} {r : Int32} {μ1 : Mem} (C : Cx p s m args c b_M_twofold 9 "TentPegsModel") (hK : va_K D classes (tys cs) s) (hr : meth.sig.returnType = (some .int)) (hlk : meth.locks = false) (K76 : Mem → Int32 → Int32 → Int32 → Int32 → Int32 → Int32 → Option (Int32 × Mem)) (hK76 : ∀ (μ : Mem) (x1 : Int32) (x2 : Int32) (x3 : Int32) (x4 : Int32) (x5 : Int32) (x6 : Int32), K76 μ x1 x2 x3 x4 x5 x6 = some (r, μ1) → G p l e { frames := 8, cells := 0, slots := 0, locals := 188 } s m args below meth c (MQ below (Qi (AM a) D (WM a cs μ1) r) args s 0 0 (AM a)) D (AM a) 9 (WM a cs μ) 76 [(0, .ref (a 0)), (1, .int x1), (2, .int x2), (3, .int x3), (4, .int x4), (5, .int x5), (6, .int x6)] []) (K103 : Mem → Int32 → Int32 → Int32 → Int32 → Int32 → Int32 → Int32 → Option (Int32 × Mem)) (hK103 : ∀ (μ : Mem) (x1 : Int32) (x2 : Int32) (x3 : Int32) (x4 : Int32) (x5 : Int32) (x6 : Int32) (x7 : Int32), K103 μ x1 x2 x3 x4 x5 x6 x7 = some (r, μ1) → G p l e { frames := 8, cells := 0, slots := 0, locals := 188 } s m args below meth c (MQ below (Qi (AM a) D (WM a cs μ1) r) args s 0 0 (AM a)) D (AM a) 9 (WM a cs μ) 103 [(0, .ref (a 0)), (1, .int x1), (2, .int x2), (3, .int x3), (4, .int x4), (5, .int x5), (6, .int x6), (7, .int x7)] []) (μ : Mem) (x1 : Int32) (x2 : Int32) (x3 : Int32) (x4 : Int32) (x5 : Int32) (x6 : Int32) (x7 : Int32) (s0 : Int32) (s1 : Int32) (hF : F_M_twofold_123 K76 K103 μ x1 x2 x3 x4 x5 x6 x7 s0 s1 = some (r, μ1)) : G p l e { frames := 8, cells := 0, slots := 0, locals := 188 } s m args below meth c (MQ below (Qi (AM a) D (WM a cs μ1) r) args s 0 0 (AM a)) D (AM a) 9 (WM a cs μ) 123 [(0, .ref (a 0)), (1, .int x1), (2, .int x2), (3, .int x3), (4, .int x4), (5, .int x5), (6, .int x6), (7, .int x7)] [.int s0, .int s1] := by
  unfold F_M_twofold_123 at hF
  refine g_icmp_ge (pc1 := 126) C 213 d_M_twofold_123 rfl (by decide) (fun c1 => ?_) (fun c1 => ?_)
  · replace hF := ite_t hF c1
    refine g_iinc (pc1 := 216) (v := (x6 + (1 : Int32))) (L1 := [(6, .int (x6 + (1 : Int32))), (0, .ref (a 0)), (1, .int x1), (2, .int x2), (3, .int x3), (4, .int x4), (5, .int x5), (7, .int x7)]) C d_M_twofold_213 rfl 6 rfl (by rw [ic_1]) (by decide) rfl ?_
    refine g_goto C 76 d_M_twofold_216 (by decide) ?_
    exact g_sub [1, 2, 3, 4, 5, 6, 0] rfl (hK76 μ x1 x2 x3 x4 x5 (x6 + (1 : Int32)) hF)
  · replace hF := ite_f hF c1
    refine g_aload_n (pc1 := 127) C d_M_twofold_126 rfl rfl 0 rfl ?_
    refine get_WM_0_field (pc1 := 130) C hK kw_172 d_M_twofold_127 rfl ?_
    refine g_iconst (pc1 := 131) (v := (1 : Int32)) C d_M_twofold_130 rfl ic_1 ?_
    have hg := gd_some hF
    replace hF := hg.2
    refine g_iald (pc1 := 132) C hK 2 (f := (μ.1 2)) rfl hg.1 d_M_twofold_131 rfl ?_
    refine g_iload (pc1 := 134) C d_M_twofold_132 rfl 6 rfl ?_
    obtain ⟨r1, hr1, hF⟩ := bnd_some hF
    refine g_callSI (pc1 := 137) (As := [.int ((μ.1 2) (1 : Int32).toNatClampNeg), .int x6]) (rest := []) C 2 (c_M_has l ((μ.1 2) (1 : Int32).toNatClampNeg) x6 r1 hr1) s_M_has kw_188 rfl ⟨Nat.le_of_ble_eq_true rfl, Nat.le_of_ble_eq_true rfl⟩ ⟨rfl, rfl⟩ d_M_twofold_134 rfl rfl (Nat.le_of_ble_eq_true rfl) ?_
    refine g_if_eq (pc1 := 140) C 207 d_M_twofold_137 rfl (by decide) (fun c1 => ?_) (fun c1 => ?_)
    · replace hF := ite_t hF c1
      refine g_iinc (pc1 := 210) (v := (x7 + (1 : Int32))) (L1 := [(7, .int (x7 + (1 : Int32))), (0, .ref (a 0)), (1, .int x1), (2, .int x2), (3, .int x3), (4, .int x4), (5, .int x5), (6, .int x6)]) C d_M_twofold_207 rfl 7 rfl (by rw [ic_1]) (by decide) rfl ?_
      refine g_goto C 103 d_M_twofold_210 (by decide) ?_
      exact g_sub [1, 2, 3, 4, 5, 6, 7, 0] rfl (hK103 μ x1 x2 x3 x4 x5 x6 (x7 + (1 : Int32)) hF)
    · replace hF := ite_f hF c1
      refine g_aload_n (pc1 := 141) C d_M_twofold_140 rfl rfl 0 rfl ?_
      refine get_WM_0_field (pc1 := 144) C hK kw_172 d_M_twofold_141 rfl ?_
      refine g_iconst (pc1 := 145) (v := (1 : Int32)) C d_M_twofold_144 rfl ic_1 ?_
      have hg := gd_some hF
      replace hF := hg.2
      refine g_iald (pc1 := 146) C hK 2 (f := (μ.1 2)) rfl hg.1 d_M_twofold_145 rfl ?_
      refine g_iload (pc1 := 148) C d_M_twofold_146 rfl 7 rfl ?_
      obtain ⟨r2, hr2, hF⟩ := bnd_some hF
      refine g_callSI (pc1 := 151) (As := [.int ((μ.1 2) (1 : Int32).toNatClampNeg), .int x7]) (rest := []) C 2 (c_M_has l ((μ.1 2) (1 : Int32).toNatClampNeg) x7 r2 hr2) s_M_has kw_188 rfl ⟨Nat.le_of_ble_eq_true rfl, Nat.le_of_ble_eq_true rfl⟩ ⟨rfl, rfl⟩ d_M_twofold_148 rfl rfl (Nat.le_of_ble_eq_true rfl) ?_
      refine g_if_eq (pc1 := 154) C 207 d_M_twofold_151 rfl (by decide) (fun c1 => ?_) (fun c1 => ?_)
      · replace hF := ite_t hF c1
        refine g_iinc (pc1 := 210) (v := (x7 + (1 : Int32))) (L1 := [(7, .int (x7 + (1 : Int32))), (0, .ref (a 0)), (1, .int x1), (2, .int x2), (3, .int x3), (4, .int x4), (5, .int x5), (6, .int x6)]) C d_M_twofold_207 rfl 7 rfl (by rw [ic_1]) (by decide) rfl ?_
        refine g_goto C 103 d_M_twofold_210 (by decide) ?_
        exact g_sub [1, 2, 3, 4, 5, 6, 7, 0] rfl (hK103 μ x1 x2 x3 x4 x5 x6 (x7 + (1 : Int32)) hF)
      · replace hF := ite_f hF c1
        refine g_aload_n (pc1 := 155) C d_M_twofold_154 rfl rfl 0 rfl ?_
        refine g_iload (pc1 := 157) C d_M_twofold_155 rfl 6 rfl ?_
        refine g_iload (pc1 := 159) C d_M_twofold_157 rfl 7 rfl ?_
        obtain ⟨⟨r3, m3⟩, hm3, hF⟩ := bnd_some hF
        refine g_callVI (pc1 := 162) (ws1 := WM a cs m3) (As := [.int x6, .int x7]) (rest := []) (b := a 0) C hK 2 (c_M_bearsWith l D cs a μ x6 x7 r3 m3 hm3) s_M_bearsWith kw_242 0 rfl rfl rfl ⟨Nat.le_of_ble_eq_true rfl, Nat.le_of_ble_eq_true rfl⟩ ⟨rfl, rfl⟩ d_M_twofold_159 rfl rfl (Nat.le_of_ble_eq_true rfl) ?_
        refine g_istore (pc1 := 164) (L1 := [(8, .int r3), (0, .ref (a 0)), (1, .int x1), (2, .int x2), (3, .int x3), (4, .int x4), (5, .int x5), (6, .int x6), (7, .int x7)]) C d_M_twofold_162 rfl (by decide) rfl ?_
        refine g_iload (pc1 := 166) C d_M_twofold_164 rfl 0 rfl ?_
        refine g_iload_n (pc1 := 167) C d_M_twofold_166 rfl rfl 4 rfl ?_
        refine g_icmp_le (pc1 := 170) C 175 d_M_twofold_167 rfl (by decide) (fun c1 => ?_) (fun c1 => ?_)
        · replace hF := ite_t hF c1
          refine g_iload (pc1 := 177) C d_M_twofold_175 rfl 5 rfl ?_
          exact g_sub [1, 2, 3, 4, 6, 7, 8, 0] rfl (p_M_twofold_177 C hK hr hlk K76 hK76 K103 hK103 m3 x1 x2 x3 x5 x6 x7 r3 x4 hF)
        · replace hF := ite_f hF c1
          refine g_iload (pc1 := 172) C d_M_twofold_170 rfl 7 rfl ?_
          refine g_goto C 177 d_M_twofold_172 (by decide) ?_
          exact g_sub [1, 2, 3, 4, 6, 7, 8, 0] rfl (p_M_twofold_177 C hK hr hlk K76 hK76 K103 hK103 m3 x1 x2 x3 x5 x6 x7 r3 x6 hF)
set_option maxHeartbeats 4000000 in
set_option maxRecDepth 100000 in
theorem p_M_twofold_103 {p : Program} {l : Launch} {e : Env} {s : State} {m : MethodId} {args : Array Value} {below : List Frame} {meth : Method} {c : Code} {D : va_G} {cs : Nat → ClassId} {a : Nat → Nat} {r : Int32} {μ1 : Mem} (C : Cx p s m args c b_M_twofold 9 "TentPegsModel") (hK : va_K D classes (tys cs) s) (hr : meth.sig.returnType = (some .int)) (hlk : meth.locks = false) (K76 : Mem → Int32 → Int32 → Int32 → Int32 → Int32 → Int32 → Option (Int32 × Mem)) (hK76 : ∀ (μ : Mem) (x1 : Int32) (x2 : Int32) (x3 : Int32) (x4 : Int32) (x5 : Int32) (x6 : Int32), K76 μ x1 x2 x3 x4 x5 x6 = some (r, μ1) → G p l e { frames := 8, cells := 0, slots := 0, locals := 188 } s m args below meth c (MQ below (Qi (AM a) D (WM a cs μ1) r) args s 0 0 (AM a)) D (AM a) 9 (WM a cs μ) 76 [(0, .ref (a 0)), (1, .int x1), (2, .int x2), (3, .int x3), (4, .int x4), (5, .int x5), (6, .int x6)] []) : ∀ (μ : Mem) (x1 : Int32) (x2 : Int32) (x3 : Int32) (x4 : Int32) (x5 : Int32) (x6 : Int32) (x7 : Int32), F_M_twofold_103 K76 μ x1 x2 x3 x4 x5 x6 x7 = some (r, μ1) → G p l e { frames := 8, cells := 0, slots := 0, locals := 188 } s m args below meth c (MQ below (Qi (AM a) D (WM a cs μ1) r) args s 0 0 (AM a)) D (AM a) 9 (WM a cs μ) 103 [(0, .ref (a 0)), (1, .int x1), (2, .int x2), (3, .int x3), (4, .int x4), (5, .int x5), (6, .int x6), (7, .int x7)] [] := by
  refine iter_ind (fun (K103 : Mem → Int32 → Int32 → Int32 → Int32 → Int32 → Int32 → Int32 → Option (Int32 × Mem)) => ∀ (μ : Mem) (x1 : Int32) (x2 : Int32) (x3 : Int32) (x4 : Int32) (x5 : Int32) (x6 : Int32) (x7 : Int32), K103 μ x1 x2 x3 x4 x5 x6 x7 = some (r, μ1) → G p l e { frames := 8, cells := 0, slots := 0, locals := 188 } s m args below meth c (MQ below (Qi (AM a) D (WM a cs μ1) r) args s 0 0 (AM a)) D (AM a) 9 (WM a cs μ) 103 [(0, .ref (a 0)), (1, .int x1), (2, .int x2), (3, .int x3), (4, .int x4), (5, .int x5), (6, .int x6), (7, .int x7)] []) ?_ ?_ NF
  · intro μ x1 x2 x3 x4 x5 x6 x7 hF
    exact none_no hF
  · intro K103 hK103 μ x1 x2 x3 x4 x5 x6 x7 hF
    unfold S_M_twofold_103 at hF
    refine g_iload (pc1 := 105) C d_M_twofold_103 rfl 7 rfl ?_
    refine g_iload_n (pc1 := 106) C d_M_twofold_105 rfl rfl 1 rfl ?_
    refine g_iconst (pc1 := 107) (v := (1 : Int32)) C d_M_twofold_106 rfl ic_1 ?_
    refine g_icmp_ne (pc1 := 110) C 117 d_M_twofold_107 rfl (by decide) (fun c1 => ?_) (fun c1 => ?_)
    · replace hF := ite_f hF c1
      refine g_aload_n (pc1 := 118) C d_M_twofold_117 rfl rfl 0 rfl ?_
      refine get_WM_0_field (pc1 := 121) C hK kw_172 d_M_twofold_118 rfl ?_
      refine g_iconst (pc1 := 122) (v := (0 : Int32)) C d_M_twofold_121 rfl ic_0 ?_
      have hg := gd_some hF
      replace hF := hg.2
      refine g_iald (pc1 := 123) C hK 2 (f := (μ.1 2)) rfl hg.1 d_M_twofold_122 rfl ?_
      exact g_sub [0, 1, 2, 3, 4, 5, 6, 7] rfl (p_M_twofold_123 C hK hr hlk K76 hK76 K103 hK103 μ x1 x2 x3 x4 x5 x6 x7 ((μ.1 2) (0 : Int32).toNatClampNeg) x7 hF)
    · replace hF := ite_t hF c1
      refine g_iload (pc1 := 112) C d_M_twofold_110 rfl 6 rfl ?_
      refine g_iconst (pc1 := 113) (v := (1 : Int32)) C d_M_twofold_112 rfl ic_1 ?_
      refine g_iadd (pc1 := 114) C d_M_twofold_113 rfl ?_
      refine g_goto C 123 d_M_twofold_114 (by decide) ?_
      exact g_sub [0, 1, 2, 3, 4, 5, 6, 7] rfl (p_M_twofold_123 C hK hr hlk K76 hK76 K103 hK103 μ x1 x2 x3 x4 x5 x6 x7 (x6 + (1 : Int32)) x7 hF)
set_option maxHeartbeats 4000000 in
set_option maxRecDepth 100000 in
theorem p_M_twofold_76 {p : Program} {l : Launch} {e : Env} {s : State} {m : MethodId} {args : Array Value} {below : List Frame} {meth : Method} {c : Code} {D : va_G} {cs : Nat → ClassId} {a : Nat → Nat} {r : Int32} {μ1 : Mem} (C : Cx p s m args c b_M_twofold 9 "TentPegsModel") (hK : va_K D classes (tys cs) s) (hr : meth.sig.returnType = (some .int)) (hlk : meth.locks = false)  : ∀ (μ : Mem) (x1 : Int32) (x2 : Int32) (x3 : Int32) (x4 : Int32) (x5 : Int32) (x6 : Int32), F_M_twofold_76  μ x1 x2 x3 x4 x5 x6 = some (r, μ1) → G p l e { frames := 8, cells := 0, slots := 0, locals := 188 } s m args below meth c (MQ below (Qi (AM a) D (WM a cs μ1) r) args s 0 0 (AM a)) D (AM a) 9 (WM a cs μ) 76 [(0, .ref (a 0)), (1, .int x1), (2, .int x2), (3, .int x3), (4, .int x4), (5, .int x5), (6, .int x6)] [] := by
  refine iter_ind (fun (K76 : Mem → Int32 → Int32 → Int32 → Int32 → Int32 → Int32 → Option (Int32 × Mem)) => ∀ (μ : Mem) (x1 : Int32) (x2 : Int32) (x3 : Int32) (x4 : Int32) (x5 : Int32) (x6 : Int32), K76 μ x1 x2 x3 x4 x5 x6 = some (r, μ1) → G p l e { frames := 8, cells := 0, slots := 0, locals := 188 } s m args below meth c (MQ below (Qi (AM a) D (WM a cs μ1) r) args s 0 0 (AM a)) D (AM a) 9 (WM a cs μ) 76 [(0, .ref (a 0)), (1, .int x1), (2, .int x2), (3, .int x3), (4, .int x4), (5, .int x5), (6, .int x6)] []) ?_ ?_ NF
  · intro μ x1 x2 x3 x4 x5 x6 hF
    exact none_no hF
  · intro K76 hK76 μ x1 x2 x3 x4 x5 x6 hF
    unfold S_M_twofold_76 at hF
    refine g_iload (pc1 := 78) C d_M_twofold_76 rfl 6 rfl ?_
    refine g_aload_n (pc1 := 79) C d_M_twofold_78 rfl rfl 0 rfl ?_
    refine get_WM_0_field (pc1 := 82) C hK kw_172 d_M_twofold_79 rfl ?_
    refine g_iconst (pc1 := 83) (v := (0 : Int32)) C d_M_twofold_82 rfl ic_0 ?_
    have hg := gd_some hF
    replace hF := hg.2
    refine g_iald (pc1 := 84) C hK 2 (f := (μ.1 2)) rfl hg.1 d_M_twofold_83 rfl ?_
    refine g_icmp_ge (pc1 := 87) C 219 d_M_twofold_84 rfl (by decide) (fun c1 => ?_) (fun c1 => ?_)
    · replace hF := ite_t hF c1
      refine g_iload_n (pc1 := 220) C d_M_twofold_219 rfl rfl 2 rfl ?_
      refine g_iconst (pc1 := 221) (v := (-1 : Int32)) C d_M_twofold_220 rfl ic_m1 ?_
      refine g_icmp_ne (pc1 := 224) C 228 d_M_twofold_221 rfl (by decide) (fun c1 => ?_) (fun c1 => ?_)
      · replace hF := ite_f hF c1
        refine g_iload_n (pc1 := 229) C d_M_twofold_228 rfl rfl 2 rfl ?_
        refine g_if_ne (pc1 := 232) C 237 d_M_twofold_229 rfl (by decide) (fun c1 => ?_) (fun c1 => ?_)
        · replace hF := ite_f hF c1
          refine g_iload (pc1 := 239) C d_M_twofold_237 rfl 5 rfl ?_
          exact g_iret C hr hlk d_M_twofold_239 (fst_of hF) (congrArg (WM a cs) (snd_of hF))
        · replace hF := ite_t hF c1
          refine g_iload (pc1 := 234) C d_M_twofold_232 rfl 4 rfl ?_
          refine g_goto C 239 d_M_twofold_234 (by decide) ?_
          exact g_iret C hr hlk d_M_twofold_239 (fst_of hF) (congrArg (WM a cs) (snd_of hF))
      · replace hF := ite_t hF c1
        refine g_iload_n (pc1 := 225) C d_M_twofold_224 rfl rfl 3 rfl ?_
        refine g_goto C 239 d_M_twofold_225 (by decide) ?_
        exact g_iret C hr hlk d_M_twofold_239 (fst_of hF) (congrArg (WM a cs) (snd_of hF))
    · replace hF := ite_f hF c1
      refine g_iload_n (pc1 := 88) C d_M_twofold_87 rfl rfl 1 rfl ?_
      refine g_iconst (pc1 := 89) (v := (1 : Int32)) C d_M_twofold_88 rfl ic_1 ?_
      refine g_icmp_ne (pc1 := 92) C 97 d_M_twofold_89 rfl (by decide) (fun c1 => ?_) (fun c1 => ?_)
      · replace hF := ite_f hF c1
        refine g_iload (pc1 := 99) C d_M_twofold_97 rfl 6 rfl ?_
        refine g_iconst (pc1 := 100) (v := (1 : Int32)) C d_M_twofold_99 rfl ic_1 ?_
        refine g_iadd (pc1 := 101) C d_M_twofold_100 rfl ?_
        refine g_istore (pc1 := 103) (L1 := [(7, .int (x6 + (1 : Int32))), (0, .ref (a 0)), (1, .int x1), (2, .int x2), (3, .int x3), (4, .int x4), (5, .int x5), (6, .int x6)]) C d_M_twofold_101 rfl (by decide) rfl ?_
        exact g_sub [1, 2, 3, 4, 5, 6, 7, 0] rfl (p_M_twofold_103 C hK hr hlk K76 hK76 μ x1 x2 x3 x4 x5 x6 (x6 + (1 : Int32)) hF)
      · replace hF := ite_t hF c1
        refine g_iload (pc1 := 94) C d_M_twofold_92 rfl 6 rfl ?_
        refine g_goto C 101 d_M_twofold_94 (by decide) ?_
        refine g_istore (pc1 := 103) (L1 := [(7, .int x6), (0, .ref (a 0)), (1, .int x1), (2, .int x2), (3, .int x3), (4, .int x4), (5, .int x5), (6, .int x6)]) C d_M_twofold_101 rfl (by decide) rfl ?_
        exact g_sub [1, 2, 3, 4, 5, 6, 7, 0] rfl (p_M_twofold_103 C hK hr hlk K76 hK76 μ x1 x2 x3 x4 x5 x6 x6 hF)
set_option maxHeartbeats 4000000 in
set_option maxRecDepth 100000 in
theorem c_M_twofold (l : Launch) (D : va_G) (cs : Nat → ClassId) (a : Nat → Nat) (μ : Mem) (x1 : Int32) (x2 : Int32) (r : Int32) (μ1 : Mem) (hF : F_M_twofold μ x1 x2 = some (r, μ1)) : MetI l y_M_twofold b_M_twofold 9 (some .int) { frames := 8, cells := 0, slots := 0, locals := 188 } D cs (AM a) (WM a cs μ) [.ref (a 0), .int x1, .int x2] r (WM a cs μ1) := by
  refine met_of rfl (by decide +kernel) (Nat.le_of_ble_eq_true rfl) (fun p e s m below meth c C hK hr hlk => ?_)
  unfold F_M_twofold at hF
  show G p l e { frames := 8, cells := 0, slots := 0, locals := 188 } s m _ below meth c _ D (AM a) 9 (WM a cs μ) 0 [(0, .ref (a 0)), (1, .int x1), (2, .int x2)] []
  refine g_aload_n (pc1 := 1) C d_M_twofold_0 rfl rfl 0 rfl ?_
  refine g_iconst (pc1 := 2) (v := (0 : Int32)) C d_M_twofold_1 rfl ic_0 ?_
  refine put_WM_0_thrown (pc1 := 5) C hK kw_178 d_M_twofold_2 rfl ?_
  refine g_iload_n (pc1 := 6) C d_M_twofold_5 rfl rfl 1 rfl ?_
  refine g_i2l (pc1 := 7) C d_M_twofold_6 rfl ?_
  refine g_lconst (pc1 := 8) (v := (1 : Int64)) C d_M_twofold_7 rfl lc_1 ?_
  refine g_ldc2 (pc1 := 11) (v := (2 : Int64)) C d_M_twofold_8 rfl kw_179 ?_
  obtain ⟨r1, hr1, hF⟩ := bnd_some hF
  refine g_callSI (pc1 := 14) (As := [.long (x1.toInt64), .long (1 : Int64), .long (2 : Int64)]) (rest := []) C 3 (c_M_in l (x1.toInt64) (1 : Int64) (2 : Int64) r1 hr1) s_M_in kw_173 rfl ⟨Nat.le_of_ble_eq_true rfl, Nat.le_of_ble_eq_true rfl⟩ ⟨rfl, rfl⟩ d_M_twofold_11 rfl rfl (Nat.le_of_ble_eq_true rfl) ?_
  refine g_if_eq (pc1 := 17) C 22 d_M_twofold_14 rfl (by decide) (fun c1 => ?_) (fun c1 => ?_)
  · replace hF := ite_t hF c1
    exact g_sub [0] rfl (p_M_twofold_22 C hK hr hlk  (stI μ 0 0 (0 : Int32)) hF)
  · replace hF := ite_f hF c1
    refine g_iload_n (pc1 := 18) C d_M_twofold_17 rfl rfl 2 rfl ?_
    refine g_iconst (pc1 := 19) (v := (-1 : Int32)) C d_M_twofold_18 rfl ic_m1 ?_
    refine g_icmp_ge (pc1 := 22) C 27 d_M_twofold_19 rfl (by decide) (fun c1 => ?_) (fun c1 => ?_)
    · replace hF := ite_t hF c1
      refine g_aload_n (pc1 := 28) C d_M_twofold_27 rfl rfl 0 rfl ?_
      refine get_WM_0_field (pc1 := 31) C hK kw_172 d_M_twofold_28 rfl ?_
      refine g_iconst (pc1 := 32) (v := (1 : Int32)) C d_M_twofold_31 rfl ic_1 ?_
      have hg := gd_some hF
      replace hF := hg.2
      refine g_iald (pc1 := 33) C hK 2 (f := (μ.1 2)) rfl hg.1 d_M_twofold_32 rfl ?_
      obtain ⟨r2, hr2, hF⟩ := bnd_some hF
      refine g_callSI (pc1 := 36) (As := [.int ((μ.1 2) (1 : Int32).toNatClampNeg)]) (rest := []) C 1 (c_M_bits l ((μ.1 2) (1 : Int32).toNatClampNeg) r2 hr2) s_M_bits kw_177 rfl ⟨Nat.le_of_ble_eq_true rfl, Nat.le_of_ble_eq_true rfl⟩ ⟨rfl, rfl⟩ d_M_twofold_33 rfl rfl (Nat.le_of_ble_eq_true rfl) ?_
      refine g_iload_n (pc1 := 37) C d_M_twofold_36 rfl rfl 1 rfl ?_
      refine g_icmp_lt (pc1 := 40) C 45 d_M_twofold_37 rfl (by decide) (fun c1 => ?_) (fun c1 => ?_)
      · replace hF := ite_t hF c1
        exact g_sub [0, 1] rfl (p_M_twofold_45 C hK hr hlk  (stI μ 0 0 (0 : Int32)) x1 hF)
      · replace hF := ite_f hF c1
        refine g_iload_n (pc1 := 41) C d_M_twofold_40 rfl rfl 2 rfl ?_
        refine g_iload_n (pc1 := 42) C d_M_twofold_41 rfl rfl 1 rfl ?_
        refine g_icmp_lt (pc1 := 45) C 65 d_M_twofold_42 rfl (by decide) (fun c1 => ?_) (fun c1 => ?_)
        · replace hF := ite_t hF c1
          refine g_iconst (pc1 := 66) (v := (-1 : Int32)) C d_M_twofold_65 rfl ic_m1 ?_
          refine g_istore_n (pc1 := 67) (L1 := [(3, .int (-1 : Int32)), (0, .ref (a 0)), (1, .int x1), (2, .int x2)]) C d_M_twofold_66 rfl rfl (by decide) rfl ?_
          refine g_iconst (pc1 := 68) (v := (-1 : Int32)) C d_M_twofold_67 rfl ic_m1 ?_
          refine g_istore (pc1 := 70) (L1 := [(4, .int (-1 : Int32)), (3, .int (-1 : Int32)), (0, .ref (a 0)), (1, .int x1), (2, .int x2)]) C d_M_twofold_68 rfl (by decide) rfl ?_
          refine g_iconst (pc1 := 71) (v := (-1 : Int32)) C d_M_twofold_70 rfl ic_m1 ?_
          refine g_istore (pc1 := 73) (L1 := [(5, .int (-1 : Int32)), (4, .int (-1 : Int32)), (3, .int (-1 : Int32)), (0, .ref (a 0)), (1, .int x1), (2, .int x2)]) C d_M_twofold_71 rfl (by decide) rfl ?_
          refine g_iconst (pc1 := 74) (v := (0 : Int32)) C d_M_twofold_73 rfl ic_0 ?_
          refine g_istore (pc1 := 76) (L1 := [(6, .int (0 : Int32)), (5, .int (-1 : Int32)), (4, .int (-1 : Int32)), (3, .int (-1 : Int32)), (0, .ref (a 0)), (1, .int x1), (2, .int x2)]) C d_M_twofold_74 rfl (by decide) rfl ?_
          exact g_sub [4, 5, 6, 3, 2, 1, 0] rfl (p_M_twofold_76 C hK hr hlk  (stI μ 0 0 (0 : Int32)) x1 x2 (-1 : Int32) (-1 : Int32) (-1 : Int32) (0 : Int32) hF)
        · replace hF := ite_f hF c1
          exact g_sub [0, 1] rfl (p_M_twofold_45 C hK hr hlk  (stI μ 0 0 (0 : Int32)) x1 hF)
    · replace hF := ite_f hF c1
      exact g_sub [0] rfl (p_M_twofold_22 C hK hr hlk  (stI μ 0 0 (0 : Int32)) hF)
-- TentPegsModel.depthFor(III)I
set_option maxHeartbeats 4000000 in
set_option maxRecDepth 100000 in
theorem p_M_depthFor_64 {p : Program} {l : Launch} {e : Env} {s : State} {m : MethodId} {args : Array Value} {below : List Frame} {meth : Method} {c : Code} {D : va_G} {cs : Nat → ClassId} {a : Nat → Nat} {r : Int32} {μ1 : Mem} (C : Cx p s m args c b_M_depthFor 6 "TentPegsModel") (hK : va_K D classes (tys cs) s) (hr : meth.sig.returnType = (some .int)) (hlk : meth.locks = false)  (μ : Mem) (x1 : Int32) (x4 : Int32) (x5 : Int32) (hF : F_M_depthFor_64  μ x1 x4 x5 = some (r, μ1)) : G p l e { frames := 3, cells := 0, slots := 0, locals := 66 } s m args below meth c (MQ below (Qi (AM a) D (WM a cs μ1) r) args s 0 0 (AM a)) D (AM a) 6 (WM a cs μ) 64 [(0, .ref (a 0)), (1, .int x1), (4, .int x4), (5, .int x5)] [] := by
  unfold F_M_depthFor_64 at hF
  refine g_aload_n (pc1 := 65) C d_M_depthFor_64 rfl rfl 0 rfl ?_
  refine get_WM_0_field (pc1 := 68) C hK kw_172 d_M_depthFor_65 rfl ?_
  refine g_bipush (pc1 := 70) (v := (13 : Int32)) C d_M_depthFor_68 rfl bp_13 ?_
  refine g_iload_n (pc1 := 71) C d_M_depthFor_70 rfl rfl 1 rfl ?_
  refine g_iadd (pc1 := 72) C d_M_depthFor_71 rfl ?_
  refine g_iload (pc1 := 74) C d_M_depthFor_72 rfl 2 rfl ?_
  have hg := gd_some hF
  replace hF := hg.2
  refine g_iast (pc1 := 75) (ws1 := WM a cs (stI μ 2 ((13 : Int32) + x1).toNatClampNeg x4)) C hK 2 (f := (μ.1 2)) rfl hg.1 (set_WM_2 _ _ _ _ _) d_M_depthFor_74 rfl ?_
  refine g_iload (pc1 := 77) C d_M_depthFor_75 rfl 3 rfl ?_
  exact g_iret C hr hlk d_M_depthFor_77 (fst_of hF) (congrArg (WM a cs) (snd_of hF))
set_option maxHeartbeats 4000000 in
set_option maxRecDepth 100000 in
theorem p_M_depthFor_25 {p : Program} {l : Launch} {e : Env} {s : State} {m : MethodId} {args : Array Value} {below : List Frame} {meth : Method} {c : Code} {D : va_G} {cs : Nat → ClassId} {a : Nat → Nat} {r : Int32} {μ1 : Mem} (C : Cx p s m args c b_M_depthFor 6 "TentPegsModel") (hK : va_K D classes (tys cs) s) (hr : meth.sig.returnType = (some .int)) (hlk : meth.locks = false)  : ∀ (μ : Mem) (x1 : Int32) (x3 : Int32) (x4 : Int32) (x5 : Int32), F_M_depthFor_25  μ x1 x3 x4 x5 = some (r, μ1) → G p l e { frames := 3, cells := 0, slots := 0, locals := 66 } s m args below meth c (MQ below (Qi (AM a) D (WM a cs μ1) r) args s 0 0 (AM a)) D (AM a) 6 (WM a cs μ) 25 [(0, .ref (a 0)), (1, .int x1), (3, .int x3), (4, .int x4), (5, .int x5)] [] := by
  refine iter_ind (fun (K25 : Mem → Int32 → Int32 → Int32 → Int32 → Option (Int32 × Mem)) => ∀ (μ : Mem) (x1 : Int32) (x3 : Int32) (x4 : Int32) (x5 : Int32), K25 μ x1 x3 x4 x5 = some (r, μ1) → G p l e { frames := 3, cells := 0, slots := 0, locals := 66 } s m args below meth c (MQ below (Qi (AM a) D (WM a cs μ1) r) args s 0 0 (AM a)) D (AM a) 6 (WM a cs μ) 25 [(0, .ref (a 0)), (1, .int x1), (3, .int x3), (4, .int x4), (5, .int x5)] []) ?_ ?_ NF
  · intro μ x1 x3 x4 x5 hF
    exact none_no hF
  · intro K25 hK25 μ x1 x3 x4 x5 hF
    unfold S_M_depthFor_25 at hF
    refine g_iload (pc1 := 27) C d_M_depthFor_25 rfl 4 rfl ?_
    refine g_bipush (pc1 := 29) (v := (10 : Int32)) C d_M_depthFor_27 rfl bp_10 ?_
    refine g_icmp_ge (pc1 := 32) C 64 d_M_depthFor_29 rfl (by decide) (fun c1 => ?_) (fun c1 => ?_)
    · replace hF := ite_t hF c1
      exact g_sub [0, 1, 3, 4] rfl (p_M_depthFor_64 C hK hr hlk  μ x1 x4 x5 hF)
    · replace hF := ite_f hF c1
      refine g_aload_n (pc1 := 33) C d_M_depthFor_32 rfl rfl 0 rfl ?_
      refine g_iload_n (pc1 := 34) C d_M_depthFor_33 rfl rfl 1 rfl ?_
      refine g_aload_n (pc1 := 35) C d_M_depthFor_34 rfl rfl 0 rfl ?_
      refine get_WM_0_field (pc1 := 38) C hK kw_172 d_M_depthFor_35 rfl ?_
      refine g_iconst (pc1 := 39) (v := (1 : Int32)) C d_M_depthFor_38 rfl ic_1 ?_
      have hg := gd_some hF
      replace hF := hg.2
      refine g_iald (pc1 := 40) C hK 2 (f := (μ.1 2)) rfl hg.1 d_M_depthFor_39 rfl ?_
      obtain ⟨r1, hr1, hF⟩ := bnd_some hF
      refine g_callVI (pc1 := 43) (ws1 := WM a cs μ) (As := [.int x1, .int ((μ.1 2) (1 : Int32).toNatClampNeg)]) (rest := []) (b := a 0) C hK 2 (c_M_holds l D cs a μ x1 ((μ.1 2) (1 : Int32).toNatClampNeg) r1 hr1) s_M_holds kw_226 0 rfl rfl rfl ⟨Nat.le_of_ble_eq_true rfl, Nat.le_of_ble_eq_true rfl⟩ ⟨rfl, rfl⟩ d_M_depthFor_40 rfl rfl (Nat.le_of_ble_eq_true rfl) ?_
      refine g_iload_n (pc1 := 44) C d_M_depthFor_43 rfl rfl 2 rfl ?_
      refine g_icmp_ge (pc1 := 47) C 64 d_M_depthFor_44 rfl (by decide) (fun c1 => ?_) (fun c1 => ?_)
      · replace hF := ite_t hF c1
        exact g_sub [0, 1, 3, 4] rfl (p_M_depthFor_64 C hK hr hlk  μ x1 x4 x5 hF)
      · replace hF := ite_f hF c1
        refine g_iinc (pc1 := 50) (v := (x5 + (1 : Int32))) (L1 := [(5, .int (x5 + (1 : Int32))), (0, .ref (a 0)), (1, .int x1), (3, .int x3), (4, .int x4)]) C d_M_depthFor_47 rfl 4 rfl (by rw [ic_1]) (by decide) rfl ?_
        refine g_aload_n (pc1 := 51) C d_M_depthFor_50 rfl rfl 1 rfl ?_
        refine get_WM_0_field (pc1 := 54) C hK kw_172 d_M_depthFor_51 rfl ?_
        refine g_bipush (pc1 := 56) (v := (13 : Int32)) C d_M_depthFor_54 rfl bp_13 ?_
        refine g_iload_n (pc1 := 57) C d_M_depthFor_56 rfl rfl 2 rfl ?_
        refine g_iadd (pc1 := 58) C d_M_depthFor_57 rfl ?_
        refine g_iload (pc1 := 60) C d_M_depthFor_58 rfl 0 rfl ?_
        have hg := gd_some hF
        replace hF := hg.2
        refine g_iast (pc1 := 61) (ws1 := WM a cs (stI μ 2 ((13 : Int32) + x1).toNatClampNeg (x5 + (1 : Int32)))) C hK 2 (f := (μ.1 2)) rfl hg.1 (set_WM_2 _ _ _ _ _) d_M_depthFor_60 rfl ?_
        refine g_goto C 25 d_M_depthFor_61 (by decide) ?_
        exact g_sub [1, 2, 3, 4, 0] rfl (hK25 (stI μ 2 ((13 : Int32) + x1).toNatClampNeg (x5 + (1 : Int32))) x1 x3 x4 (x5 + (1 : Int32)) hF)
set_option maxHeartbeats 4000000 in
set_option maxRecDepth 100000 in
theorem c_M_depthFor (l : Launch) (D : va_G) (cs : Nat → ClassId) (a : Nat → Nat) (μ : Mem) (x1 : Int32) (x2 : Int32) (x3 : Int32) (r : Int32) (μ1 : Mem) (hF : F_M_depthFor μ x1 x2 x3 = some (r, μ1)) : MetI l y_M_depthFor b_M_depthFor 6 (some .int) { frames := 3, cells := 0, slots := 0, locals := 66 } D cs (AM a) (WM a cs μ) [.ref (a 0), .int x1, .int x2, .int x3] r (WM a cs μ1) := by
  refine met_of rfl (by decide +kernel) (Nat.le_of_ble_eq_true rfl) (fun p e s m below meth c C hK hr hlk => ?_)
  unfold F_M_depthFor at hF
  show G p l e { frames := 3, cells := 0, slots := 0, locals := 66 } s m _ below meth c _ D (AM a) 6 (WM a cs μ) 0 [(0, .ref (a 0)), (1, .int x1), (2, .int x2), (3, .int x3)] []
  refine g_aload_n (pc1 := 1) C d_M_depthFor_0 rfl rfl 0 rfl ?_
  refine get_WM_0_field (pc1 := 4) C hK kw_172 d_M_depthFor_1 rfl ?_
  refine g_bipush (pc1 := 6) (v := (13 : Int32)) C d_M_depthFor_4 rfl bp_13 ?_
  refine g_iload_n (pc1 := 7) C d_M_depthFor_6 rfl rfl 1 rfl ?_
  refine g_iadd (pc1 := 8) C d_M_depthFor_7 rfl ?_
  have hg := gd_some hF
  replace hF := hg.2
  refine g_iald (pc1 := 9) C hK 2 (f := (μ.1 2)) rfl hg.1 d_M_depthFor_8 rfl ?_
  refine g_istore (pc1 := 11) (L1 := [(4, .int ((μ.1 2) ((13 : Int32) + x1).toNatClampNeg)), (0, .ref (a 0)), (1, .int x1), (2, .int x2), (3, .int x3)]) C d_M_depthFor_9 rfl (by decide) rfl ?_
  refine g_iload_n (pc1 := 12) C d_M_depthFor_11 rfl rfl 3 rfl ?_
  refine g_istore (pc1 := 14) (L1 := [(5, .int x2), (4, .int ((μ.1 2) ((13 : Int32) + x1).toNatClampNeg)), (0, .ref (a 0)), (1, .int x1), (2, .int x2), (3, .int x3)]) C d_M_depthFor_12 rfl (by decide) rfl ?_
  refine g_aload_n (pc1 := 15) C d_M_depthFor_14 rfl rfl 2 rfl ?_
  refine get_WM_0_field (pc1 := 18) C hK kw_172 d_M_depthFor_15 rfl ?_
  refine g_bipush (pc1 := 20) (v := (13 : Int32)) C d_M_depthFor_18 rfl bp_13 ?_
  refine g_iload_n (pc1 := 21) C d_M_depthFor_20 rfl rfl 3 rfl ?_
  refine g_iadd (pc1 := 22) C d_M_depthFor_21 rfl ?_
  refine g_iload (pc1 := 24) C d_M_depthFor_22 rfl 0 rfl ?_
  have hg := gd_some hF
  replace hF := hg.2
  refine g_iast (pc1 := 25) (ws1 := WM a cs (stI μ 2 ((13 : Int32) + x1).toNatClampNeg x2)) C hK 2 (f := (μ.1 2)) rfl hg.1 (set_WM_2 _ _ _ _ _) d_M_depthFor_24 rfl ?_
  exact g_sub [2, 3, 5, 1, 0] rfl (p_M_depthFor_25 C hK hr hlk  (stI μ 2 ((13 : Int32) + x1).toNatClampNeg x2) x1 x3 ((μ.1 2) ((13 : Int32) + x1).toNatClampNeg) x2 hF)
-- TentPegsModel.strokes(III)I
set_option maxHeartbeats 4000000 in
set_option maxRecDepth 100000 in
theorem p_M_strokes_26 {p : Program} {l : Launch} {e : Env} {s : State} {m : MethodId} {args : Array Value} {below : List Frame} {meth : Method} {c : Code} {D : va_G} {cs : Nat → ClassId} {a : Nat → Nat} {r : Int32} {μ1 : Mem} (C : Cx p s m args c b_M_strokes 8 "TentPegsModel") (hK : va_K D classes (tys cs) s) (hr : meth.sig.returnType = (some .int)) (hlk : meth.locks = false)  (μ : Mem)  (hF : F_M_strokes_26  μ = some (r, μ1)) : G p l e { frames := 4, cells := 0, slots := 0, locals := 93 } s m args below meth c (MQ below (Qi (AM a) D (WM a cs μ1) r) args s 0 0 (AM a)) D (AM a) 8 (WM a cs μ) 26 [(0, .ref (a 0))] [] := by
  unfold F_M_strokes_26 at hF
  refine g_aload_n (pc1 := 27) C d_M_strokes_26 rfl rfl 0 rfl ?_
  obtain ⟨⟨r1, m1⟩, hm1, hF⟩ := bnd_some hF
  refine g_callVI (pc1 := 30) (ws1 := WM a cs m1) (As := []) (rest := []) (b := a 0) C hK 0 (c_M_badTen l D cs a μ  r1 m1 hm1) s_M_badTen kw_238 0 rfl rfl rfl ⟨Nat.le_of_ble_eq_true rfl, Nat.le_of_ble_eq_true rfl⟩ ⟨rfl, rfl⟩ d_M_strokes_27 rfl rfl (Nat.le_of_ble_eq_true rfl) ?_
  exact g_iret C hr hlk d_M_strokes_30 (fst_of hF) (congrArg (WM a cs) (snd_of hF))
set_option maxHeartbeats 4000000 in
set_option maxRecDepth 100000 in
theorem p_M_strokes_102 {p : Program} {l : Launch} {e : Env} {s : State} {m : MethodId} {args : Array Value} {below : List Frame} {meth : Method} {c : Code} {D : va_G} {cs : Nat → ClassId} {a : Nat → Nat} {r : Int32} {μ1 : Mem} (C : Cx p s m args c b_M_strokes 8 "TentPegsModel") (hK : va_K D classes (tys cs) s) (hr : meth.sig.returnType = (some .int)) (hlk : meth.locks = false) (K40 : Mem → Int32 → Int32 → Int32 → Int32 → Int32 → Int32 → Option (Int32 × Mem)) (hK40 : ∀ (μ : Mem) (x1 : Int32) (x2 : Int32) (x3 : Int32) (x4 : Int32) (x5 : Int32) (x6 : Int32), K40 μ x1 x2 x3 x4 x5 x6 = some (r, μ1) → G p l e { frames := 4, cells := 0, slots := 0, locals := 93 } s m args below meth c (MQ below (Qi (AM a) D (WM a cs μ1) r) args s 0 0 (AM a)) D (AM a) 8 (WM a cs μ) 40 [(0, .ref (a 0)), (1, .int x1), (2, .int x2), (3, .int x3), (4, .int x4), (5, .int x5), (6, .int x6)] []) (μ : Mem) (x1 : Int32) (x2 : Int32) (x3 : Int32) (x4 : Int32) (x5 : Int32) (x6 : Int32) (s0 : Int32) (hF : F_M_strokes_102 K40 μ x1 x2 x3 x4 x5 x6 s0 = some (r, μ1)) : G p l e { frames := 4, cells := 0, slots := 0, locals := 93 } s m args below meth c (MQ below (Qi (AM a) D (WM a cs μ1) r) args s 0 0 (AM a)) D (AM a) 8 (WM a cs μ) 102 [(0, .ref (a 0)), (1, .int x1), (2, .int x2), (3, .int x3), (4, .int x4), (5, .int x5), (6, .int x6)] [.int s0] := by
  unfold F_M_strokes_102 at hF
  refine g_istore (pc1 := 104) (L1 := [(7, .int s0), (0, .ref (a 0)), (1, .int x1), (2, .int x2), (3, .int x3), (4, .int x4), (5, .int x5), (6, .int x6)]) C d_M_strokes_102 rfl (by decide) rfl ?_
  refine g_iload (pc1 := 106) C d_M_strokes_104 rfl 0 rfl ?_
  refine g_bipush (pc1 := 108) (v := (9 : Int32)) C d_M_strokes_106 rfl bp_9 ?_
  refine g_icmp_le (pc1 := 111) C 113 d_M_strokes_108 rfl (by decide) (fun c1 => ?_) (fun c1 => ?_)
  · replace hF := ite_t hF c1
    refine g_iload (pc1 := 115) C d_M_strokes_113 rfl 5 rfl ?_
    refine g_iload (pc1 := 117) C d_M_strokes_115 rfl 0 rfl ?_
    refine g_aload_n (pc1 := 118) C d_M_strokes_117 rfl rfl 1 rfl ?_
    refine get_WM_0_field (pc1 := 121) C hK kw_172 d_M_strokes_118 rfl ?_
    refine g_bipush (pc1 := 123) (v := (13 : Int32)) C d_M_strokes_121 rfl bp_13 ?_
    refine g_iload (pc1 := 125) C d_M_strokes_123 rfl 7 rfl ?_
    refine g_iadd (pc1 := 126) C d_M_strokes_125 rfl ?_
    have hg := gd_some hF
    replace hF := hg.2
    refine g_iald (pc1 := 127) C hK 2 (f := (μ.1 2)) rfl hg.1 d_M_strokes_126 rfl ?_
    refine g_isub (pc1 := 128) C d_M_strokes_127 rfl ?_
    refine g_iadd (pc1 := 129) C d_M_strokes_128 rfl ?_
    refine g_istore (pc1 := 131) (L1 := [(4, .int (x4 + (s0 - ((μ.1 2) ((13 : Int32) + x6).toNatClampNeg)))), (7, .int s0), (0, .ref (a 0)), (1, .int x1), (2, .int x2), (3, .int x3), (5, .int x5), (6, .int x6)]) C d_M_strokes_129 rfl (by decide) rfl ?_
    refine g_iload (pc1 := 133) C d_M_strokes_131 rfl 7 rfl ?_
    refine g_iload_n (pc1 := 134) C d_M_strokes_133 rfl rfl 5 rfl ?_
    refine g_icmp_ne (pc1 := 137) C 142 d_M_strokes_134 rfl (by decide) (fun c1 => ?_) (fun c1 => ?_)
    · replace hF := ite_f hF c1
      refine g_iload (pc1 := 144) C d_M_strokes_142 rfl 6 rfl ?_
      refine g_istore (pc1 := 146) (L1 := [(5, .int x5), (4, .int (x4 + (s0 - ((μ.1 2) ((13 : Int32) + x6).toNatClampNeg)))), (7, .int s0), (0, .ref (a 0)), (1, .int x1), (2, .int x2), (3, .int x3), (6, .int x6)]) C d_M_strokes_144 rfl (by decide) rfl ?_
      refine g_iinc (pc1 := 149) (v := (x6 + (1 : Int32))) (L1 := [(6, .int (x6 + (1 : Int32))), (5, .int x5), (4, .int (x4 + (s0 - ((μ.1 2) ((13 : Int32) + x6).toNatClampNeg)))), (7, .int s0), (0, .ref (a 0)), (1, .int x1), (2, .int x2), (3, .int x3)]) C d_M_strokes_146 rfl 7 rfl (by rw [ic_1]) (by decide) rfl ?_
      refine g_goto C 40 d_M_strokes_149 (by decide) ?_
      exact g_sub [4, 5, 6, 7, 2, 1, 0] rfl (hK40 μ x1 x2 x3 (x4 + (s0 - ((μ.1 2) ((13 : Int32) + x6).toNatClampNeg))) x5 (x6 + (1 : Int32)) hF)
    · replace hF := ite_t hF c1
      refine g_iload (pc1 := 139) C d_M_strokes_137 rfl 1 rfl ?_
      refine g_goto C 144 d_M_strokes_139 (by decide) ?_
      refine g_istore (pc1 := 146) (L1 := [(5, .int s0), (4, .int (x4 + (s0 - ((μ.1 2) ((13 : Int32) + x6).toNatClampNeg)))), (7, .int s0), (0, .ref (a 0)), (1, .int x1), (2, .int x2), (3, .int x3), (6, .int x6)]) C d_M_strokes_144 rfl (by decide) rfl ?_
      refine g_iinc (pc1 := 149) (v := (x6 + (1 : Int32))) (L1 := [(6, .int (x6 + (1 : Int32))), (5, .int s0), (4, .int (x4 + (s0 - ((μ.1 2) ((13 : Int32) + x6).toNatClampNeg)))), (7, .int s0), (0, .ref (a 0)), (1, .int x1), (2, .int x2), (3, .int x3)]) C d_M_strokes_146 rfl 7 rfl (by rw [ic_1]) (by decide) rfl ?_
      refine g_goto C 40 d_M_strokes_149 (by decide) ?_
      exact g_sub [4, 5, 6, 7, 2, 1, 0] rfl (hK40 μ x1 x2 x3 (x4 + (s0 - ((μ.1 2) ((13 : Int32) + x6).toNatClampNeg))) s0 (x6 + (1 : Int32)) hF)
  · replace hF := ite_f hF c1
    refine g_iconst (pc1 := 112) (v := (-1 : Int32)) C d_M_strokes_111 rfl ic_m1 ?_
    exact g_iret C hr hlk d_M_strokes_112 (fst_of hF) (congrArg (WM a cs) (snd_of hF))
set_option maxHeartbeats 4000000 in
set_option maxRecDepth 100000 in
theorem p_M_strokes_40 {p : Program} {l : Launch} {e : Env} {s : State} {m : MethodId} {args : Array Value} {below : List Frame} {meth : Method} {c : Code} {D : va_G} {cs : Nat → ClassId} {a : Nat → Nat} {r : Int32} {μ1 : Mem} (C : Cx p s m args c b_M_strokes 8 "TentPegsModel") (hK : va_K D classes (tys cs) s) (hr : meth.sig.returnType = (some .int)) (hlk : meth.locks = false)  : ∀ (μ : Mem) (x1 : Int32) (x2 : Int32) (x3 : Int32) (x4 : Int32) (x5 : Int32) (x6 : Int32), F_M_strokes_40  μ x1 x2 x3 x4 x5 x6 = some (r, μ1) → G p l e { frames := 4, cells := 0, slots := 0, locals := 93 } s m args below meth c (MQ below (Qi (AM a) D (WM a cs μ1) r) args s 0 0 (AM a)) D (AM a) 8 (WM a cs μ) 40 [(0, .ref (a 0)), (1, .int x1), (2, .int x2), (3, .int x3), (4, .int x4), (5, .int x5), (6, .int x6)] [] := by
  refine iter_ind (fun (K40 : Mem → Int32 → Int32 → Int32 → Int32 → Int32 → Int32 → Option (Int32 × Mem)) => ∀ (μ : Mem) (x1 : Int32) (x2 : Int32) (x3 : Int32) (x4 : Int32) (x5 : Int32) (x6 : Int32), K40 μ x1 x2 x3 x4 x5 x6 = some (r, μ1) → G p l e { frames := 4, cells := 0, slots := 0, locals := 93 } s m args below meth c (MQ below (Qi (AM a) D (WM a cs μ1) r) args s 0 0 (AM a)) D (AM a) 8 (WM a cs μ) 40 [(0, .ref (a 0)), (1, .int x1), (2, .int x2), (3, .int x3), (4, .int x4), (5, .int x5), (6, .int x6)] []) ?_ ?_ NF
  · intro μ x1 x2 x3 x4 x5 x6 hF
    exact none_no hF
  · intro K40 hK40 μ x1 x2 x3 x4 x5 x6 hF
    unfold S_M_strokes_40 at hF
    refine g_iload (pc1 := 42) C d_M_strokes_40 rfl 6 rfl ?_
    refine g_aload_n (pc1 := 43) C d_M_strokes_42 rfl rfl 0 rfl ?_
    refine get_WM_0_field (pc1 := 46) C hK kw_172 d_M_strokes_43 rfl ?_
    refine g_iconst (pc1 := 47) (v := (0 : Int32)) C d_M_strokes_46 rfl ic_0 ?_
    have hg := gd_some hF
    replace hF := hg.2
    refine g_iald (pc1 := 48) C hK 2 (f := (μ.1 2)) rfl hg.1 d_M_strokes_47 rfl ?_
    refine g_icmp_ge (pc1 := 51) C 152 d_M_strokes_48 rfl (by decide) (fun c1 => ?_) (fun c1 => ?_)
    · replace hF := ite_t hF c1
      refine g_iload_n (pc1 := 153) C d_M_strokes_152 rfl rfl 3 rfl ?_
      refine g_iconst (pc1 := 154) (v := (-1 : Int32)) C d_M_strokes_153 rfl ic_m1 ?_
      refine g_icmp_ne (pc1 := 157) C 162 d_M_strokes_154 rfl (by decide) (fun c1 => ?_) (fun c1 => ?_)
      · replace hF := ite_f hF c1
        refine g_iload (pc1 := 164) C d_M_strokes_162 rfl 5 rfl ?_
        exact g_iret C hr hlk d_M_strokes_164 (fst_of hF) (congrArg (WM a cs) (snd_of hF))
      · replace hF := ite_t hF c1
        refine g_iload (pc1 := 159) C d_M_strokes_157 rfl 4 rfl ?_
        refine g_goto C 164 d_M_strokes_159 (by decide) ?_
        exact g_iret C hr hlk d_M_strokes_164 (fst_of hF) (congrArg (WM a cs) (snd_of hF))
    · replace hF := ite_f hF c1
      refine g_aload_n (pc1 := 52) C d_M_strokes_51 rfl rfl 0 rfl ?_
      refine get_WM_0_field (pc1 := 55) C hK kw_172 d_M_strokes_52 rfl ?_
      refine g_iconst (pc1 := 56) (v := (1 : Int32)) C d_M_strokes_55 rfl ic_1 ?_
      have hg := gd_some hF
      replace hF := hg.2
      refine g_iald (pc1 := 57) C hK 2 (f := (μ.1 2)) rfl hg.1 d_M_strokes_56 rfl ?_
      refine g_iload (pc1 := 59) C d_M_strokes_57 rfl 6 rfl ?_
      obtain ⟨r1, hr1, hF⟩ := bnd_some hF
      refine g_callSI (pc1 := 62) (As := [.int ((μ.1 2) (1 : Int32).toNatClampNeg), .int x6]) (rest := []) C 2 (c_M_has l ((μ.1 2) (1 : Int32).toNatClampNeg) x6 r1 hr1) s_M_has kw_188 rfl ⟨Nat.le_of_ble_eq_true rfl, Nat.le_of_ble_eq_true rfl⟩ ⟨rfl, rfl⟩ d_M_strokes_59 rfl rfl (Nat.le_of_ble_eq_true rfl) ?_
      refine g_if_eq (pc1 := 65) C 92 d_M_strokes_62 rfl (by decide) (fun c1 => ?_) (fun c1 => ?_)
      · replace hF := ite_t hF c1
        refine g_aload_n (pc1 := 93) C d_M_strokes_92 rfl rfl 0 rfl ?_
        refine get_WM_0_field (pc1 := 96) C hK kw_172 d_M_strokes_93 rfl ?_
        refine g_bipush (pc1 := 98) (v := (13 : Int32)) C d_M_strokes_96 rfl bp_13 ?_
        refine g_iload (pc1 := 100) C d_M_strokes_98 rfl 6 rfl ?_
        refine g_iadd (pc1 := 101) C d_M_strokes_100 rfl ?_
        have hg := gd_some hF
        replace hF := hg.2
        refine g_iald (pc1 := 102) C hK 2 (f := (μ.1 2)) rfl hg.1 d_M_strokes_101 rfl ?_
        exact g_sub [0, 1, 2, 3, 4, 5, 6] rfl (p_M_strokes_102 C hK hr hlk K40 hK40 μ x1 x2 x3 x4 x5 x6 ((μ.1 2) ((13 : Int32) + x6).toNatClampNeg) hF)
      · replace hF := ite_f hF c1
        refine g_aload_n (pc1 := 66) C d_M_strokes_65 rfl rfl 0 rfl ?_
        refine g_iload (pc1 := 68) C d_M_strokes_66 rfl 6 rfl ?_
        refine g_aload_n (pc1 := 69) C d_M_strokes_68 rfl rfl 0 rfl ?_
        refine get_WM_0_field (pc1 := 72) C hK kw_172 d_M_strokes_69 rfl ?_
        refine g_bipush (pc1 := 74) (v := (13 : Int32)) C d_M_strokes_72 rfl bp_13 ?_
        refine g_iload (pc1 := 76) C d_M_strokes_74 rfl 6 rfl ?_
        refine g_iadd (pc1 := 77) C d_M_strokes_76 rfl ?_
        have hg := gd_some hF
        replace hF := hg.2
        refine g_iald (pc1 := 78) C hK 2 (f := (μ.1 2)) rfl hg.1 d_M_strokes_77 rfl ?_
        refine g_aload_n (pc1 := 79) C d_M_strokes_78 rfl rfl 0 rfl ?_
        refine g_iload (pc1 := 81) C d_M_strokes_79 rfl 6 rfl ?_
        refine g_iload_n (pc1 := 82) C d_M_strokes_81 rfl rfl 1 rfl ?_
        refine g_iload_n (pc1 := 83) C d_M_strokes_82 rfl rfl 2 rfl ?_
        obtain ⟨r2, hr2, hF⟩ := bnd_some hF
        refine g_callVI (pc1 := 86) (ws1 := WM a cs μ) (As := [.int x6, .int x1, .int x2]) (rest := [.int ((μ.1 2) ((13 : Int32) + x6).toNatClampNeg), .int x6, .ref (a 0)]) (b := a 0) C hK 3 (c_M_pullNow l D cs a μ x6 x1 x2 r2 hr2) s_M_pullNow kw_237 0 rfl rfl rfl ⟨Nat.le_of_ble_eq_true rfl, Nat.le_of_ble_eq_true rfl⟩ ⟨rfl, rfl⟩ d_M_strokes_83 rfl rfl (Nat.le_of_ble_eq_true rfl) ?_
        obtain ⟨⟨r3, m3⟩, hm3, hF⟩ := bnd_some hF
        refine g_callVI (pc1 := 89) (ws1 := WM a cs m3) (As := [.int x6, .int ((μ.1 2) ((13 : Int32) + x6).toNatClampNeg), .int r2]) (rest := []) (b := a 0) C hK 3 (c_M_depthFor l D cs a μ x6 ((μ.1 2) ((13 : Int32) + x6).toNatClampNeg) r2 r3 m3 hm3) s_M_depthFor kw_243 0 rfl rfl rfl ⟨Nat.le_of_ble_eq_true rfl, Nat.le_of_ble_eq_true rfl⟩ ⟨rfl, rfl⟩ d_M_strokes_86 rfl rfl (Nat.le_of_ble_eq_true rfl) ?_
        refine g_goto C 102 d_M_strokes_89 (by decide) ?_
        exact g_sub [0, 1, 2, 3, 4, 5, 6] rfl (p_M_strokes_102 C hK hr hlk K40 hK40 m3 x1 x2 x3 x4 x5 x6 r3 hF)
set_option maxHeartbeats 4000000 in
set_option maxRecDepth 100000 in
theorem c_M_strokes (l : Launch) (D : va_G) (cs : Nat → ClassId) (a : Nat → Nat) (μ : Mem) (x1 : Int32) (x2 : Int32) (x3 : Int32) (r : Int32) (μ1 : Mem) (hF : F_M_strokes μ x1 x2 x3 = some (r, μ1)) : MetI l y_M_strokes b_M_strokes 8 (some .int) { frames := 4, cells := 0, slots := 0, locals := 93 } D cs (AM a) (WM a cs μ) [.ref (a 0), .int x1, .int x2, .int x3] r (WM a cs μ1) := by
  refine met_of rfl (by decide +kernel) (Nat.le_of_ble_eq_true rfl) (fun p e s m below meth c C hK hr hlk => ?_)
  unfold F_M_strokes at hF
  show G p l e { frames := 4, cells := 0, slots := 0, locals := 93 } s m _ below meth c _ D (AM a) 8 (WM a cs μ) 0 [(0, .ref (a 0)), (1, .int x1), (2, .int x2), (3, .int x3)] []
  refine g_aload_n (pc1 := 1) C d_M_strokes_0 rfl rfl 0 rfl ?_
  refine g_iconst (pc1 := 2) (v := (0 : Int32)) C d_M_strokes_1 rfl ic_0 ?_
  refine put_WM_0_thrown (pc1 := 5) C hK kw_178 d_M_strokes_2 rfl ?_
  refine g_iload_n (pc1 := 6) C d_M_strokes_5 rfl rfl 1 rfl ?_
  refine g_iload_n (pc1 := 7) C d_M_strokes_6 rfl rfl 2 rfl ?_
  obtain ⟨r1, hr1, hF⟩ := bnd_some hF
  refine g_callSI (pc1 := 10) (As := [.int x1, .int x2]) (rest := []) C 2 (c_M_noGust l x1 x2 r1 hr1) s_M_noGust kw_233 rfl ⟨Nat.le_of_ble_eq_true rfl, Nat.le_of_ble_eq_true rfl⟩ ⟨rfl, rfl⟩ d_M_strokes_7 rfl rfl (Nat.le_of_ble_eq_true rfl) ?_
  refine g_if_ne (pc1 := 13) C 26 d_M_strokes_10 rfl (by decide) (fun c1 => ?_) (fun c1 => ?_)
  · replace hF := ite_f hF c1
    exact g_sub [0] rfl (p_M_strokes_26 C hK hr hlk  (stI μ 0 0 (0 : Int32)) hF)
  · replace hF := ite_t hF c1
    refine g_iload_n (pc1 := 14) C d_M_strokes_13 rfl rfl 3 rfl ?_
    refine g_iconst (pc1 := 15) (v := (-1 : Int32)) C d_M_strokes_14 rfl ic_m1 ?_
    refine g_icmp_eq (pc1 := 18) C 31 d_M_strokes_15 rfl (by decide) (fun c1 => ?_) (fun c1 => ?_)
    · replace hF := ite_t hF c1
      refine g_iconst (pc1 := 32) (v := (0 : Int32)) C d_M_strokes_31 rfl ic_0 ?_
      refine g_istore (pc1 := 34) (L1 := [(4, .int (0 : Int32)), (0, .ref (a 0)), (1, .int x1), (2, .int x2), (3, .int x3)]) C d_M_strokes_32 rfl (by decide) rfl ?_
      refine g_iconst (pc1 := 35) (v := (0 : Int32)) C d_M_strokes_34 rfl ic_0 ?_
      refine g_istore (pc1 := 37) (L1 := [(5, .int (0 : Int32)), (4, .int (0 : Int32)), (0, .ref (a 0)), (1, .int x1), (2, .int x2), (3, .int x3)]) C d_M_strokes_35 rfl (by decide) rfl ?_
      refine g_iconst (pc1 := 38) (v := (0 : Int32)) C d_M_strokes_37 rfl ic_0 ?_
      refine g_istore (pc1 := 40) (L1 := [(6, .int (0 : Int32)), (5, .int (0 : Int32)), (4, .int (0 : Int32)), (0, .ref (a 0)), (1, .int x1), (2, .int x2), (3, .int x3)]) C d_M_strokes_38 rfl (by decide) rfl ?_
      exact g_sub [3, 4, 5, 6, 2, 1, 0] rfl (p_M_strokes_40 C hK hr hlk  (stI μ 0 0 (0 : Int32)) x1 x2 x3 (0 : Int32) (0 : Int32) (0 : Int32) hF)
    · replace hF := ite_f hF c1
      refine g_aload_n (pc1 := 19) C d_M_strokes_18 rfl rfl 0 rfl ?_
      refine g_iload_n (pc1 := 20) C d_M_strokes_19 rfl rfl 3 rfl ?_
      obtain ⟨r2, hr2, hF⟩ := bnd_some hF
      refine g_callVI (pc1 := 23) (ws1 := WM a cs (stI μ 0 0 (0 : Int32))) (As := [.int x3]) (rest := []) (b := a 0) C hK 1 (c_M_noPeg l D cs a (stI μ 0 0 (0 : Int32)) x3 r2 hr2) s_M_noPeg kw_183 0 rfl rfl rfl ⟨Nat.le_of_ble_eq_true rfl, Nat.le_of_ble_eq_true rfl⟩ ⟨rfl, rfl⟩ d_M_strokes_20 rfl rfl (Nat.le_of_ble_eq_true rfl) ?_
      refine g_if_eq (pc1 := 26) C 31 d_M_strokes_23 rfl (by decide) (fun c1 => ?_) (fun c1 => ?_)
      · replace hF := ite_t hF c1
        refine g_iconst (pc1 := 32) (v := (0 : Int32)) C d_M_strokes_31 rfl ic_0 ?_
        refine g_istore (pc1 := 34) (L1 := [(4, .int (0 : Int32)), (0, .ref (a 0)), (1, .int x1), (2, .int x2), (3, .int x3)]) C d_M_strokes_32 rfl (by decide) rfl ?_
        refine g_iconst (pc1 := 35) (v := (0 : Int32)) C d_M_strokes_34 rfl ic_0 ?_
        refine g_istore (pc1 := 37) (L1 := [(5, .int (0 : Int32)), (4, .int (0 : Int32)), (0, .ref (a 0)), (1, .int x1), (2, .int x2), (3, .int x3)]) C d_M_strokes_35 rfl (by decide) rfl ?_
        refine g_iconst (pc1 := 38) (v := (0 : Int32)) C d_M_strokes_37 rfl ic_0 ?_
        refine g_istore (pc1 := 40) (L1 := [(6, .int (0 : Int32)), (5, .int (0 : Int32)), (4, .int (0 : Int32)), (0, .ref (a 0)), (1, .int x1), (2, .int x2), (3, .int x3)]) C d_M_strokes_38 rfl (by decide) rfl ?_
        exact g_sub [3, 4, 5, 6, 2, 1, 0] rfl (p_M_strokes_40 C hK hr hlk  (stI μ 0 0 (0 : Int32)) x1 x2 x3 (0 : Int32) (0 : Int32) (0 : Int32) hF)
      · replace hF := ite_f hF c1
        exact g_sub [0] rfl (p_M_strokes_26 C hK hr hlk  (stI μ 0 0 (0 : Int32)) hF)
-- TentPegsModel.setPart(II)V
set_option maxHeartbeats 4000000 in
set_option maxRecDepth 100000 in
theorem p_M_setPart_17 {p : Program} {l : Launch} {e : Env} {s : State} {m : MethodId} {args : Array Value} {below : List Frame} {meth : Method} {c : Code} {D : va_G} {cs : Nat → ClassId} {a : Nat → Nat} {μ1 : Mem} (C : Cx p s m args c b_M_setPart 9 "TentPegsModel") (hK : va_K D classes (tys cs) s) (hr : meth.sig.returnType = none) (hlk : meth.locks = false)  : ∀ (μ : Mem) (x1 : Int32) (x2 : Int32) (x3 : Int64) (x5 : Int64), F_M_setPart_17  μ x1 x2 x3 x5 = some μ1 → G p l e { frames := 0, cells := 0, slots := 0, locals := 0 } s m args below meth c (MQ below (Qv (AM a) D (WM a cs μ1)) args s 0 0 (AM a)) D (AM a) 9 (WM a cs μ) 17 [(0, .ref (a 0)), (1, .int x1), (2, .int x2), (3, .long x3), (5, .long x5)] [] := by
  refine iter_ind (fun (K17 : Mem → Int32 → Int32 → Int64 → Int64 → Option Mem) => ∀ (μ : Mem) (x1 : Int32) (x2 : Int32) (x3 : Int64) (x5 : Int64), K17 μ x1 x2 x3 x5 = some μ1 → G p l e { frames := 0, cells := 0, slots := 0, locals := 0 } s m args below meth c (MQ below (Qv (AM a) D (WM a cs μ1)) args s 0 0 (AM a)) D (AM a) 9 (WM a cs μ) 17 [(0, .ref (a 0)), (1, .int x1), (2, .int x2), (3, .long x3), (5, .long x5)] []) ?_ ?_ NF
  · intro μ x1 x2 x3 x5 hF
    exact none_no hF
  · intro K17 hK17 μ x1 x2 x3 x5 hF
    unfold S_M_setPart_17 at hF
    refine g_lload (pc1 := 19) C d_M_setPart_17 rfl 4 rfl ?_
    refine g_lconst (pc1 := 20) (v := (0 : Int64)) C d_M_setPart_19 rfl lc_0 ?_
    refine g_lcmp (pc1 := 21) C d_M_setPart_20 rfl ?_
    refine g_if_eq (pc1 := 24) C 40 d_M_setPart_21 rfl (by decide) (fun c1 => ?_) (fun c1 => ?_)
    · replace hF := ite_t hF c1
      refine g_aload_n (pc1 := 41) C d_M_setPart_40 rfl rfl 0 rfl ?_
      refine g_iload_n (pc1 := 42) C d_M_setPart_41 rfl rfl 1 rfl ?_
      refine g_i2l (pc1 := 43) C d_M_setPart_42 rfl ?_
      refine g_lload_n (pc1 := 44) C d_M_setPart_43 rfl rfl 3 rfl ?_
      by_cases h0 : x3 = 0
      · exact none_no (ite_t hF h0)
      replace hF := ite_f hF h0
      refine g_ldiv (pc1 := 45) C d_M_setPart_44 rfl h0 ?_
      refine put_WM_0_above (pc1 := 48) C hK kw_244 d_M_setPart_45 rfl ?_
      refine g_aload_n (pc1 := 49) C d_M_setPart_48 rfl rfl 0 rfl ?_
      refine g_iload_n (pc1 := 50) C d_M_setPart_49 rfl rfl 2 rfl ?_
      refine g_i2l (pc1 := 51) C d_M_setPart_50 rfl ?_
      refine g_lload_n (pc1 := 52) C d_M_setPart_51 rfl rfl 3 rfl ?_
      by_cases h0 : x3 = 0
      · exact none_no (ite_t hF h0)
      replace hF := ite_f hF h0
      refine g_ldiv (pc1 := 53) C d_M_setPart_52 rfl h0 ?_
      refine put_WM_0_below (pc1 := 56) C hK kw_245 d_M_setPart_53 rfl ?_
      exact g_vret C hr hlk d_M_setPart_56 (congrArg (WM a cs) (Option.some.inj hF))
    · replace hF := ite_f hF c1
      refine g_lload_n (pc1 := 25) C d_M_setPart_24 rfl rfl 3 rfl ?_
      refine g_lload (pc1 := 27) C d_M_setPart_25 rfl 4 rfl ?_
      by_cases h0 : x5 = 0
      · exact none_no (ite_t hF h0)
      replace hF := ite_f hF h0
      refine g_lrem (pc1 := 28) C d_M_setPart_27 rfl h0 ?_
      refine g_lstore (pc1 := 30) (L1 := [(7, .long (x3 - x3 / x5 * x5)), (0, .ref (a 0)), (1, .int x1), (2, .int x2), (3, .long x3), (5, .long x5)]) C d_M_setPart_28 rfl (by decide) rfl ?_
      refine g_lload (pc1 := 32) C d_M_setPart_30 rfl 5 rfl ?_
      refine g_lstore_n (pc1 := 33) (L1 := [(3, .long x5), (7, .long (x3 - x3 / x5 * x5)), (0, .ref (a 0)), (1, .int x1), (2, .int x2), (5, .long x5)]) C d_M_setPart_32 rfl rfl (by decide) rfl ?_
      refine g_lload (pc1 := 35) C d_M_setPart_33 rfl 1 rfl ?_
      refine g_lstore (pc1 := 37) (L1 := [(5, .long (x3 - x3 / x5 * x5)), (3, .long x5), (7, .long (x3 - x3 / x5 * x5)), (0, .ref (a 0)), (1, .int x1), (2, .int x2)]) C d_M_setPart_35 rfl (by decide) rfl ?_
      refine g_goto C 17 d_M_setPart_37 (by decide) ?_
      exact g_sub [3, 4, 5, 1, 0] rfl (hK17 μ x1 x2 x5 (x3 - x3 / x5 * x5) hF)
set_option maxHeartbeats 4000000 in
set_option maxRecDepth 100000 in
theorem c_M_setPart (l : Launch) (D : va_G) (cs : Nat → ClassId) (a : Nat → Nat) (μ : Mem) (x1 : Int32) (x2 : Int32) (μ1 : Mem) (hF : F_M_setPart μ x1 x2 = some μ1) : MetV l y_M_setPart b_M_setPart 9 none { frames := 0, cells := 0, slots := 0, locals := 0 } D cs (AM a) (WM a cs μ) [.ref (a 0), .int x1, .int x2] (WM a cs μ1) := by
  refine met_of rfl (by decide +kernel) (Nat.le_of_ble_eq_true rfl) (fun p e s m below meth c C hK hr hlk => ?_)
  unfold F_M_setPart at hF
  show G p l e { frames := 0, cells := 0, slots := 0, locals := 0 } s m _ below meth c _ D (AM a) 9 (WM a cs μ) 0 [(0, .ref (a 0)), (1, .int x1), (2, .int x2)] []
  refine g_iload_n (pc1 := 1) C d_M_setPart_0 rfl rfl 1 rfl ?_
  refine g_if_ge (pc1 := 4) C 10 d_M_setPart_1 rfl (by decide) (fun c1 => ?_) (fun c1 => ?_)
  · replace hF := ite_t hF c1
    refine g_iload_n (pc1 := 11) C d_M_setPart_10 rfl rfl 1 rfl ?_
    refine g_i2l (pc1 := 12) C d_M_setPart_11 rfl ?_
    refine g_lstore_n (pc1 := 13) (L1 := [(3, .long (x1.toInt64)), (0, .ref (a 0)), (1, .int x1), (2, .int x2)]) C d_M_setPart_12 rfl rfl (by decide) rfl ?_
    refine g_iload_n (pc1 := 14) C d_M_setPart_13 rfl rfl 3 rfl ?_
    refine g_i2l (pc1 := 15) C d_M_setPart_14 rfl ?_
    refine g_lstore (pc1 := 17) (L1 := [(5, .long (x2.toInt64)), (3, .long (x1.toInt64)), (0, .ref (a 0)), (1, .int x1), (2, .int x2)]) C d_M_setPart_15 rfl (by decide) rfl ?_
    exact g_sub [2, 3, 4, 1, 0] rfl (p_M_setPart_17 C hK hr hlk  μ x1 x2 (x1.toInt64) (x2.toInt64) hF)
  · replace hF := ite_f hF c1
    refine g_iload_n (pc1 := 5) C d_M_setPart_4 rfl rfl 1 rfl ?_
    refine g_ineg (pc1 := 6) C d_M_setPart_5 rfl ?_
    refine g_i2l (pc1 := 7) C d_M_setPart_6 rfl ?_
    refine g_goto C 12 d_M_setPart_7 (by decide) ?_
    refine g_lstore_n (pc1 := 13) (L1 := [(3, .long ((-x1).toInt64)), (0, .ref (a 0)), (1, .int x1), (2, .int x2)]) C d_M_setPart_12 rfl rfl (by decide) rfl ?_
    refine g_iload_n (pc1 := 14) C d_M_setPart_13 rfl rfl 3 rfl ?_
    refine g_i2l (pc1 := 15) C d_M_setPart_14 rfl ?_
    refine g_lstore (pc1 := 17) (L1 := [(5, .long (x2.toInt64)), (3, .long ((-x1).toInt64)), (0, .ref (a 0)), (1, .int x1), (2, .int x2)]) C d_M_setPart_15 rfl (by decide) rfl ?_
    exact g_sub [2, 3, 4, 1, 0] rfl (p_M_setPart_17 C hK hr hlk  μ x1 x2 ((-x1).toInt64) (x2.toInt64) hF)
-- TentPegsModel.allOdds()I
set_option maxHeartbeats 4000000 in
set_option maxRecDepth 100000 in
theorem p_M_allOdds_4 {p : Program} {l : Launch} {e : Env} {s : State} {m : MethodId} {args : Array Value} {below : List Frame} {meth : Method} {c : Code} {D : va_G} {cs : Nat → ClassId} {a : Nat → Nat} {μ : Mem} {r : Int32} (C : Cx p s m args c b_M_allOdds 3 "TentPegsModel") (hK : va_K D classes (tys cs) s) (hr : meth.sig.returnType = (some .int)) (hlk : meth.locks = false)  : ∀ (x1 : Int32) (x2 : Int32), F_M_allOdds_4  μ x1 x2 = some r → G p l e { frames := 0, cells := 0, slots := 0, locals := 0 } s m args below meth c (MQ below (Qi (AM a) D (WM a cs μ) r) args s 0 0 (AM a)) D (AM a) 3 (WM a cs μ) 4 [(0, .ref (a 0)), (1, .int x1), (2, .int x2)] [] := by
  refine iter_ind (fun (K4 : Mem → Int32 → Int32 → Option Int32) => ∀ (x1 : Int32) (x2 : Int32), K4 μ x1 x2 = some r → G p l e { frames := 0, cells := 0, slots := 0, locals := 0 } s m args below meth c (MQ below (Qi (AM a) D (WM a cs μ) r) args s 0 0 (AM a)) D (AM a) 3 (WM a cs μ) 4 [(0, .ref (a 0)), (1, .int x1), (2, .int x2)] []) ?_ ?_ NF
  · intro x1 x2 hF
    exact none_no hF
  · intro K4 hK4 x1 x2 hF
    unfold S_M_allOdds_4 at hF
    refine g_iload_n (pc1 := 5) C d_M_allOdds_4 rfl rfl 2 rfl ?_
    refine g_bipush (pc1 := 7) (v := (8 : Int32)) C d_M_allOdds_5 rfl bp_8 ?_
    refine g_icmp_ge (pc1 := 10) C 28 d_M_allOdds_7 rfl (by decide) (fun c1 => ?_) (fun c1 => ?_)
    · replace hF := ite_t hF c1
      refine g_iload_n (pc1 := 29) C d_M_allOdds_28 rfl rfl 1 rfl ?_
      exact g_iret C hr hlk d_M_allOdds_29 (Option.some.inj hF) rfl
    · replace hF := ite_f hF c1
      refine g_iload_n (pc1 := 11) C d_M_allOdds_10 rfl rfl 1 rfl ?_
      refine g_aload_n (pc1 := 12) C d_M_allOdds_11 rfl rfl 0 rfl ?_
      refine get_WM_0_field (pc1 := 15) C hK kw_172 d_M_allOdds_12 rfl ?_
      refine g_bipush (pc1 := 17) (v := (29 : Int32)) C d_M_allOdds_15 rfl bp_29 ?_
      refine g_iload_n (pc1 := 18) C d_M_allOdds_17 rfl rfl 2 rfl ?_
      refine g_iadd (pc1 := 19) C d_M_allOdds_18 rfl ?_
      have hg := gd_some hF
      replace hF := hg.2
      refine g_iald (pc1 := 20) C hK 2 (f := (μ.1 2)) rfl hg.1 d_M_allOdds_19 rfl ?_
      refine g_iadd (pc1 := 21) C d_M_allOdds_20 rfl ?_
      refine g_istore_n (pc1 := 22) (L1 := [(1, .int (x1 + ((μ.1 2) ((29 : Int32) + x2).toNatClampNeg))), (0, .ref (a 0)), (2, .int x2)]) C d_M_allOdds_21 rfl rfl (by decide) rfl ?_
      refine g_iinc (pc1 := 25) (v := (x2 + (1 : Int32))) (L1 := [(2, .int (x2 + (1 : Int32))), (1, .int (x1 + ((μ.1 2) ((29 : Int32) + x2).toNatClampNeg))), (0, .ref (a 0))]) C d_M_allOdds_22 rfl 2 rfl (by rw [ic_1]) (by decide) rfl ?_
      refine g_goto C 4 d_M_allOdds_25 (by decide) ?_
      exact g_sub [2, 1, 0] rfl (hK4 (x1 + ((μ.1 2) ((29 : Int32) + x2).toNatClampNeg)) (x2 + (1 : Int32)) hF)
set_option maxHeartbeats 4000000 in
set_option maxRecDepth 100000 in
theorem c_M_allOdds (l : Launch) (D : va_G) (cs : Nat → ClassId) (a : Nat → Nat) (μ : Mem)  (r : Int32) (hF : F_M_allOdds μ = some r) : MetI l y_M_allOdds b_M_allOdds 3 (some .int) { frames := 0, cells := 0, slots := 0, locals := 0 } D cs (AM a) (WM a cs μ) [.ref (a 0)] r (WM a cs μ) := by
  refine met_of rfl (by decide +kernel) (Nat.le_of_ble_eq_true rfl) (fun p e s m below meth c C hK hr hlk => ?_)
  unfold F_M_allOdds at hF
  show G p l e { frames := 0, cells := 0, slots := 0, locals := 0 } s m _ below meth c _ D (AM a) 3 (WM a cs μ) 0 [(0, .ref (a 0))] []
  refine g_iconst (pc1 := 1) (v := (0 : Int32)) C d_M_allOdds_0 rfl ic_0 ?_
  refine g_istore_n (pc1 := 2) (L1 := [(1, .int (0 : Int32)), (0, .ref (a 0))]) C d_M_allOdds_1 rfl rfl (by decide) rfl ?_
  refine g_iconst (pc1 := 3) (v := (0 : Int32)) C d_M_allOdds_2 rfl ic_0 ?_
  refine g_istore_n (pc1 := 4) (L1 := [(2, .int (0 : Int32)), (1, .int (0 : Int32)), (0, .ref (a 0))]) C d_M_allOdds_3 rfl rfl (by decide) rfl ?_
  exact g_sub [2, 1, 0] rfl (p_M_allOdds_4 C hK hr hlk  (0 : Int32) (0 : Int32) hF)
-- TentPegsModel.goodOdds(III)I
set_option maxHeartbeats 4000000 in
set_option maxRecDepth 100000 in
theorem p_M_goodOdds_6 {p : Program} {l : Launch} {e : Env} {s : State} {m : MethodId} {args : Array Value} {below : List Frame} {meth : Method} {c : Code} {D : va_G} {cs : Nat → ClassId} {a : Nat → Nat} {μ : Mem} {r : Int32} (C : Cx p s m args c b_M_goodOdds 6 "TentPegsModel") (hK : va_K D classes (tys cs) s) (hr : meth.sig.returnType = (some .int)) (hlk : meth.locks = false)  : ∀ (x1 : Int32) (x2 : Int32) (x3 : Int32) (x4 : Int32) (x5 : Int32), F_M_goodOdds_6  μ x1 x2 x3 x4 x5 = some r → G p l e { frames := 4, cells := 0, slots := 0, locals := 97 } s m args below meth c (MQ below (Qi (AM a) D (WM a cs μ) r) args s 0 0 (AM a)) D (AM a) 6 (WM a cs μ) 6 [(0, .ref (a 0)), (1, .int x1), (2, .int x2), (3, .int x3), (4, .int x4), (5, .int x5)] [] := by
  refine iter_ind (fun (K6 : Mem → Int32 → Int32 → Int32 → Int32 → Int32 → Option Int32) => ∀ (x1 : Int32) (x2 : Int32) (x3 : Int32) (x4 : Int32) (x5 : Int32), K6 μ x1 x2 x3 x4 x5 = some r → G p l e { frames := 4, cells := 0, slots := 0, locals := 97 } s m args below meth c (MQ below (Qi (AM a) D (WM a cs μ) r) args s 0 0 (AM a)) D (AM a) 6 (WM a cs μ) 6 [(0, .ref (a 0)), (1, .int x1), (2, .int x2), (3, .int x3), (4, .int x4), (5, .int x5)] []) ?_ ?_ NF
  · intro x1 x2 x3 x4 x5 hF
    exact none_no hF
  · intro K6 hK6 x1 x2 x3 x4 x5 hF
    unfold S_M_goodOdds_6 at hF
    refine g_iload (pc1 := 8) C d_M_goodOdds_6 rfl 5 rfl ?_
    refine g_bipush (pc1 := 10) (v := (8 : Int32)) C d_M_goodOdds_8 rfl bp_8 ?_
    refine g_icmp_ge (pc1 := 13) C 56 d_M_goodOdds_10 rfl (by decide) (fun c1 => ?_) (fun c1 => ?_)
    · replace hF := ite_t hF c1
      refine g_iload (pc1 := 58) C d_M_goodOdds_56 rfl 4 rfl ?_
      exact g_iret C hr hlk d_M_goodOdds_58 (Option.some.inj hF) rfl
    · replace hF := ite_f hF c1
      refine g_iload (pc1 := 15) C d_M_goodOdds_13 rfl 4 rfl ?_
      refine g_aload_n (pc1 := 16) C d_M_goodOdds_15 rfl rfl 0 rfl ?_
      refine g_aload_n (pc1 := 17) C d_M_goodOdds_16 rfl rfl 0 rfl ?_
      refine get_WM_0_field (pc1 := 20) C hK kw_172 d_M_goodOdds_17 rfl ?_
      refine g_iconst (pc1 := 21) (v := (1 : Int32)) C d_M_goodOdds_20 rfl ic_1 ?_
      have hg := gd_some hF
      replace hF := hg.2
      refine g_iald (pc1 := 22) C hK 2 (f := (μ.1 2)) rfl hg.1 d_M_goodOdds_21 rfl ?_
      refine g_iload (pc1 := 24) C d_M_goodOdds_22 rfl 5 rfl ?_
      refine g_iload_n (pc1 := 25) C d_M_goodOdds_24 rfl rfl 1 rfl ?_
      refine g_iload_n (pc1 := 26) C d_M_goodOdds_25 rfl rfl 2 rfl ?_
      refine g_iload_n (pc1 := 27) C d_M_goodOdds_26 rfl rfl 3 rfl ?_
      obtain ⟨r1, hr1, hF⟩ := bnd_some hF
      refine g_callVI (pc1 := 30) (ws1 := WM a cs μ) (As := [.int ((μ.1 2) (1 : Int32).toNatClampNeg), .int x5, .int x1, .int x2, .int x3]) (rest := [.int x4]) (b := a 0) C hK 5 (c_M_takesNone l D cs a μ ((μ.1 2) (1 : Int32).toNatClampNeg) x5 x1 x2 x3 r1 hr1) s_M_takesNone kw_227 0 rfl rfl rfl ⟨Nat.le_of_ble_eq_true rfl, Nat.le_of_ble_eq_true rfl⟩ ⟨rfl, rfl⟩ d_M_goodOdds_27 rfl rfl (Nat.le_of_ble_eq_true rfl) ?_
      refine g_if_eq (pc1 := 33) C 46 d_M_goodOdds_30 rfl (by decide) (fun c1 => ?_) (fun c1 => ?_)
      · replace hF := ite_t hF c1
        refine g_iconst (pc1 := 47) (v := (0 : Int32)) C d_M_goodOdds_46 rfl ic_0 ?_
        refine g_iadd (pc1 := 48) C d_M_goodOdds_47 rfl ?_
        refine g_istore (pc1 := 50) (L1 := [(4, .int (x4 + (0 : Int32))), (0, .ref (a 0)), (1, .int x1), (2, .int x2), (3, .int x3), (5, .int x5)]) C d_M_goodOdds_48 rfl (by decide) rfl ?_
        refine g_iinc (pc1 := 53) (v := (x5 + (1 : Int32))) (L1 := [(5, .int (x5 + (1 : Int32))), (4, .int (x4 + (0 : Int32))), (0, .ref (a 0)), (1, .int x1), (2, .int x2), (3, .int x3)]) C d_M_goodOdds_50 rfl 5 rfl (by rw [ic_1]) (by decide) rfl ?_
        refine g_goto C 6 d_M_goodOdds_53 (by decide) ?_
        exact g_sub [2, 3, 4, 5, 1, 0] rfl (hK6 x1 x2 x3 (x4 + (0 : Int32)) (x5 + (1 : Int32)) hF)
      · replace hF := ite_f hF c1
        refine g_aload_n (pc1 := 34) C d_M_goodOdds_33 rfl rfl 0 rfl ?_
        refine get_WM_0_field (pc1 := 37) C hK kw_172 d_M_goodOdds_34 rfl ?_
        refine g_bipush (pc1 := 39) (v := (29 : Int32)) C d_M_goodOdds_37 rfl bp_29 ?_
        refine g_iload (pc1 := 41) C d_M_goodOdds_39 rfl 5 rfl ?_
        refine g_iadd (pc1 := 42) C d_M_goodOdds_41 rfl ?_
        have hg := gd_some hF
        replace hF := hg.2
        refine g_iald (pc1 := 43) C hK 2 (f := (μ.1 2)) rfl hg.1 d_M_goodOdds_42 rfl ?_
        refine g_goto C 47 d_M_goodOdds_43 (by decide) ?_
        refine g_iadd (pc1 := 48) C d_M_goodOdds_47 rfl ?_
        refine g_istore (pc1 := 50) (L1 := [(4, .int (x4 + ((μ.1 2) ((29 : Int32) + x5).toNatClampNeg))), (0, .ref (a 0)), (1, .int x1), (2, .int x2), (3, .int x3), (5, .int x5)]) C d_M_goodOdds_48 rfl (by decide) rfl ?_
        refine g_iinc (pc1 := 53) (v := (x5 + (1 : Int32))) (L1 := [(5, .int (x5 + (1 : Int32))), (4, .int (x4 + ((μ.1 2) ((29 : Int32) + x5).toNatClampNeg))), (0, .ref (a 0)), (1, .int x1), (2, .int x2), (3, .int x3)]) C d_M_goodOdds_50 rfl 5 rfl (by rw [ic_1]) (by decide) rfl ?_
        refine g_goto C 6 d_M_goodOdds_53 (by decide) ?_
        exact g_sub [2, 3, 4, 5, 1, 0] rfl (hK6 x1 x2 x3 (x4 + ((μ.1 2) ((29 : Int32) + x5).toNatClampNeg)) (x5 + (1 : Int32)) hF)
set_option maxHeartbeats 4000000 in
set_option maxRecDepth 100000 in
theorem c_M_goodOdds (l : Launch) (D : va_G) (cs : Nat → ClassId) (a : Nat → Nat) (μ : Mem) (x1 : Int32) (x2 : Int32) (x3 : Int32) (r : Int32) (hF : F_M_goodOdds μ x1 x2 x3 = some r) : MetI l y_M_goodOdds b_M_goodOdds 6 (some .int) { frames := 4, cells := 0, slots := 0, locals := 97 } D cs (AM a) (WM a cs μ) [.ref (a 0), .int x1, .int x2, .int x3] r (WM a cs μ) := by
  refine met_of rfl (by decide +kernel) (Nat.le_of_ble_eq_true rfl) (fun p e s m below meth c C hK hr hlk => ?_)
  unfold F_M_goodOdds at hF
  show G p l e { frames := 4, cells := 0, slots := 0, locals := 97 } s m _ below meth c _ D (AM a) 6 (WM a cs μ) 0 [(0, .ref (a 0)), (1, .int x1), (2, .int x2), (3, .int x3)] []
  refine g_iconst (pc1 := 1) (v := (0 : Int32)) C d_M_goodOdds_0 rfl ic_0 ?_
  refine g_istore (pc1 := 3) (L1 := [(4, .int (0 : Int32)), (0, .ref (a 0)), (1, .int x1), (2, .int x2), (3, .int x3)]) C d_M_goodOdds_1 rfl (by decide) rfl ?_
  refine g_iconst (pc1 := 4) (v := (0 : Int32)) C d_M_goodOdds_3 rfl ic_0 ?_
  refine g_istore (pc1 := 6) (L1 := [(5, .int (0 : Int32)), (4, .int (0 : Int32)), (0, .ref (a 0)), (1, .int x1), (2, .int x2), (3, .int x3)]) C d_M_goodOdds_4 rfl (by decide) rfl ?_
  exact g_sub [2, 3, 4, 5, 1, 0] rfl (p_M_goodOdds_6 C hK hr hlk  x1 x2 x3 (0 : Int32) (0 : Int32) hF)
-- TentPegsModel.chance(I)I
set_option maxHeartbeats 4000000 in
set_option maxRecDepth 100000 in
theorem c_M_chance (l : Launch) (D : va_G) (cs : Nat → ClassId) (a : Nat → Nat) (μ : Mem) (x1 : Int32) (r : Int32) (μ1 : Mem) (hF : F_M_chance μ x1 = some (r, μ1)) : MetI l y_M_chance b_M_chance 2 (some .int) { frames := 5, cells := 0, slots := 0, locals := 122 } D cs (AM a) (WM a cs μ) [.ref (a 0), .int x1] r (WM a cs μ1) := by
  refine met_of rfl (by decide +kernel) (Nat.le_of_ble_eq_true rfl) (fun p e s m below meth c C hK hr hlk => ?_)
  unfold F_M_chance at hF
  show G p l e { frames := 5, cells := 0, slots := 0, locals := 122 } s m _ below meth c _ D (AM a) 2 (WM a cs μ) 0 [(0, .ref (a 0)), (1, .int x1)] []
  refine g_aload_n (pc1 := 1) C d_M_chance_0 rfl rfl 0 rfl ?_
  refine g_iconst (pc1 := 2) (v := (0 : Int32)) C d_M_chance_1 rfl ic_0 ?_
  refine put_WM_0_thrown (pc1 := 5) C hK kw_178 d_M_chance_2 rfl ?_
  refine g_iload_n (pc1 := 6) C d_M_chance_5 rfl rfl 1 rfl ?_
  refine g_i2l (pc1 := 7) C d_M_chance_6 rfl ?_
  refine g_lconst (pc1 := 8) (v := (0 : Int64)) C d_M_chance_7 rfl lc_0 ?_
  refine g_ldc2 (pc1 := 11) (v := (60 : Int64)) C d_M_chance_8 rfl kw_176 ?_
  obtain ⟨r1, hr1, hF⟩ := bnd_some hF
  refine g_callSI (pc1 := 14) (As := [.long (x1.toInt64), .long (0 : Int64), .long (60 : Int64)]) (rest := []) C 3 (c_M_in l (x1.toInt64) (0 : Int64) (60 : Int64) r1 hr1) s_M_in kw_173 rfl ⟨Nat.le_of_ble_eq_true rfl, Nat.le_of_ble_eq_true rfl⟩ ⟨rfl, rfl⟩ d_M_chance_11 rfl rfl (Nat.le_of_ble_eq_true rfl) ?_
  refine g_if_ne (pc1 := 17) C 22 d_M_chance_14 rfl (by decide) (fun c1 => ?_) (fun c1 => ?_)
  · replace hF := ite_f hF c1
    refine g_aload_n (pc1 := 23) C d_M_chance_22 rfl rfl 0 rfl ?_
    obtain ⟨r2, hr2, hF⟩ := bnd_some hF
    refine g_callVI (pc1 := 26) (ws1 := WM a cs (stI μ 0 0 (0 : Int32))) (As := []) (rest := []) (b := a 0) C hK 0 (c_M_allOdds l D cs a (stI μ 0 0 (0 : Int32))  r2 hr2) s_M_allOdds kw_246 0 rfl rfl rfl ⟨Nat.le_of_ble_eq_true rfl, Nat.le_of_ble_eq_true rfl⟩ ⟨rfl, rfl⟩ d_M_chance_23 rfl rfl (Nat.le_of_ble_eq_true rfl) ?_
    refine g_if_ne (pc1 := 29) C 34 d_M_chance_26 rfl (by decide) (fun c1 => ?_) (fun c1 => ?_)
    · replace hF := ite_f hF c1
      refine g_aload_n (pc1 := 35) C d_M_chance_34 rfl rfl 0 rfl ?_
      refine g_aload_n (pc1 := 36) C d_M_chance_35 rfl rfl 0 rfl ?_
      refine g_iload_n (pc1 := 37) C d_M_chance_36 rfl rfl 1 rfl ?_
      refine g_iconst (pc1 := 38) (v := (0 : Int32)) C d_M_chance_37 rfl ic_0 ?_
      refine g_aload_n (pc1 := 39) C d_M_chance_38 rfl rfl 0 rfl ?_
      refine get_WM_0_field (pc1 := 42) C hK kw_172 d_M_chance_39 rfl ?_
      refine g_iconst (pc1 := 43) (v := (3 : Int32)) C d_M_chance_42 rfl ic_3 ?_
      have hg := gd_some hF
      replace hF := hg.2
      refine g_iald (pc1 := 44) C hK 2 (f := (μ.1 2)) rfl hg.1 d_M_chance_43 rfl ?_
      obtain ⟨r3, hr3, hF⟩ := bnd_some hF
      refine g_callVI (pc1 := 47) (ws1 := WM a cs (stI μ 0 0 (0 : Int32))) (As := [.int x1, .int (0 : Int32), .int ((μ.1 2) (3 : Int32).toNatClampNeg)]) (rest := [.ref (a 0)]) (b := a 0) C hK 3 (c_M_goodOdds l D cs a (stI μ 0 0 (0 : Int32)) x1 (0 : Int32) ((μ.1 2) (3 : Int32).toNatClampNeg) r3 hr3) s_M_goodOdds kw_247 0 rfl rfl rfl ⟨Nat.le_of_ble_eq_true rfl, Nat.le_of_ble_eq_true rfl⟩ ⟨rfl, rfl⟩ d_M_chance_44 rfl rfl (Nat.le_of_ble_eq_true rfl) ?_
      refine g_aload_n (pc1 := 48) C d_M_chance_47 rfl rfl 0 rfl ?_
      obtain ⟨r4, hr4, hF⟩ := bnd_some hF
      refine g_callVI (pc1 := 51) (ws1 := WM a cs (stI μ 0 0 (0 : Int32))) (As := []) (rest := [.int r3, .ref (a 0)]) (b := a 0) C hK 0 (c_M_allOdds l D cs a (stI μ 0 0 (0 : Int32))  r4 hr4) s_M_allOdds kw_246 0 rfl rfl rfl ⟨Nat.le_of_ble_eq_true rfl, Nat.le_of_ble_eq_true rfl⟩ ⟨rfl, rfl⟩ d_M_chance_48 rfl rfl (Nat.le_of_ble_eq_true rfl) ?_
      obtain ⟨m5, hm5, hF⟩ := bnd_some hF
      refine g_callVV (pc1 := 54) (ws1 := WM a cs m5) (As := [.int r3, .int r4]) (rest := []) (b := a 0) C hK 2 (c_M_setPart l D cs a (stI μ 0 0 (0 : Int32)) r3 r4 m5 hm5) s_M_setPart kw_248 0 rfl rfl rfl ⟨Nat.le_of_ble_eq_true rfl, Nat.le_of_ble_eq_true rfl⟩ ⟨rfl, rfl⟩ d_M_chance_51 rfl rfl (Nat.le_of_ble_eq_true rfl) ?_
      refine g_iconst (pc1 := 55) (v := (1 : Int32)) C d_M_chance_54 rfl ic_1 ?_
      exact g_iret C hr hlk d_M_chance_55 (fst_of hF) (congrArg (WM a cs) (snd_of hF))
    · replace hF := ite_t hF c1
      refine g_aload_n (pc1 := 30) C d_M_chance_29 rfl rfl 0 rfl ?_
      obtain ⟨⟨r6, m6⟩, hm6, hF⟩ := bnd_some hF
      refine g_callVI (pc1 := 33) (ws1 := WM a cs m6) (As := []) (rest := []) (b := a 0) C hK 0 (c_M_no l D cs a (stI μ 0 0 (0 : Int32))  r6 m6 hm6) s_M_no kw_189 0 rfl rfl rfl ⟨Nat.le_of_ble_eq_true rfl, Nat.le_of_ble_eq_true rfl⟩ ⟨rfl, rfl⟩ d_M_chance_30 rfl rfl (Nat.le_of_ble_eq_true rfl) ?_
      exact g_iret C hr hlk d_M_chance_33 (fst_of hF) (congrArg (WM a cs) (snd_of hF))
  · replace hF := ite_t hF c1
    refine g_aload_n (pc1 := 18) C d_M_chance_17 rfl rfl 0 rfl ?_
    obtain ⟨⟨r7, m7⟩, hm7, hF⟩ := bnd_some hF
    refine g_callVI (pc1 := 21) (ws1 := WM a cs m7) (As := []) (rest := []) (b := a 0) C hK 0 (c_M_bad l D cs a (stI μ 0 0 (0 : Int32))  r7 m7 hm7) s_M_bad kw_182 0 rfl rfl rfl ⟨Nat.le_of_ble_eq_true rfl, Nat.le_of_ble_eq_true rfl⟩ ⟨rfl, rfl⟩ d_M_chance_18 rfl rfl (Nat.le_of_ble_eq_true rfl) ?_
    exact g_iret C hr hlk d_M_chance_21 (fst_of hF) (congrArg (WM a cs) (snd_of hF))
-- TentPegsModel.turn(I)I
set_option maxHeartbeats 4000000 in
set_option maxRecDepth 100000 in
theorem p_M_turn_75 {p : Program} {l : Launch} {e : Env} {s : State} {m : MethodId} {args : Array Value} {below : List Frame} {meth : Method} {c : Code} {D : va_G} {cs : Nat → ClassId} {a : Nat → Nat} {r : Int32} {μ1 : Mem} (C : Cx p s m args c b_M_turn 6 "TentPegsModel") (hK : va_K D classes (tys cs) s) (hr : meth.sig.returnType = (some .int)) (hlk : meth.locks = false) (K41 : Mem → Int32 → Int32 → Int32 → Int32 → Option (Int32 × Mem)) (hK41 : ∀ (μ : Mem) (x1 : Int32) (x2 : Int32) (x3 : Int32) (x4 : Int32), K41 μ x1 x2 x3 x4 = some (r, μ1) → G p l e { frames := 5, cells := 0, slots := 0, locals := 122 } s m args below meth c (MQ below (Qi (AM a) D (WM a cs μ1) r) args s 0 0 (AM a)) D (AM a) 6 (WM a cs μ) 41 [(0, .ref (a 0)), (1, .int x1), (2, .int x2), (3, .int x3), (4, .int x4)] []) (μ : Mem) (x1 : Int32) (x3 : Int32) (x4 : Int32) (x5 : Int32) (s0 : Int32) (hF : F_M_turn_75 K41 μ x1 x3 x4 x5 s0 = some (r, μ1)) : G p l e { frames := 5, cells := 0, slots := 0, locals := 122 } s m args below meth c (MQ below (Qi (AM a) D (WM a cs μ1) r) args s 0 0 (AM a)) D (AM a) 6 (WM a cs μ) 75 [(0, .ref (a 0)), (1, .int x1), (3, .int x3), (4, .int x4), (5, .int x5)] [.int s0] := by
  unfold F_M_turn_75 at hF
  refine g_istore_n (pc1 := 76) (L1 := [(2, .int s0), (0, .ref (a 0)), (1, .int x1), (3, .int x3), (4, .int x4), (5, .int x5)]) C d_M_turn_75 rfl rfl (by decide) rfl ?_
  refine g_iload (pc1 := 78) C d_M_turn_76 rfl 5 rfl ?_
  refine g_iload_n (pc1 := 79) C d_M_turn_78 rfl rfl 3 rfl ?_
  refine g_icmp_le (pc1 := 82) C 87 d_M_turn_79 rfl (by decide) (fun c1 => ?_) (fun c1 => ?_)
  · replace hF := ite_t hF c1
    refine g_iload_n (pc1 := 88) C d_M_turn_87 rfl rfl 3 rfl ?_
    refine g_istore_n (pc1 := 89) (L1 := [(3, .int x3), (2, .int s0), (0, .ref (a 0)), (1, .int x1), (4, .int x4), (5, .int x5)]) C d_M_turn_88 rfl rfl (by decide) rfl ?_
    refine g_iinc (pc1 := 92) (v := (x4 + (1 : Int32))) (L1 := [(4, .int (x4 + (1 : Int32))), (3, .int x3), (2, .int s0), (0, .ref (a 0)), (1, .int x1), (5, .int x5)]) C d_M_turn_89 rfl 4 rfl (by rw [ic_1]) (by decide) rfl ?_
    refine g_goto C 41 d_M_turn_92 (by decide) ?_
    exact g_sub [3, 4, 2, 1, 0] rfl (hK41 μ x1 s0 x3 (x4 + (1 : Int32)) hF)
  · replace hF := ite_f hF c1
    refine g_iload (pc1 := 84) C d_M_turn_82 rfl 5 rfl ?_
    refine g_goto C 88 d_M_turn_84 (by decide) ?_
    refine g_istore_n (pc1 := 89) (L1 := [(3, .int x5), (2, .int s0), (0, .ref (a 0)), (1, .int x1), (4, .int x4), (5, .int x5)]) C d_M_turn_88 rfl rfl (by decide) rfl ?_
    refine g_iinc (pc1 := 92) (v := (x4 + (1 : Int32))) (L1 := [(4, .int (x4 + (1 : Int32))), (3, .int x5), (2, .int s0), (0, .ref (a 0)), (1, .int x1), (5, .int x5)]) C d_M_turn_89 rfl 4 rfl (by rw [ic_1]) (by decide) rfl ?_
    refine g_goto C 41 d_M_turn_92 (by decide) ?_
    exact g_sub [3, 4, 2, 1, 0] rfl (hK41 μ x1 s0 x5 (x4 + (1 : Int32)) hF)
set_option maxHeartbeats 4000000 in
set_option maxRecDepth 100000 in
theorem p_M_turn_41 {p : Program} {l : Launch} {e : Env} {s : State} {m : MethodId} {args : Array Value} {below : List Frame} {meth : Method} {c : Code} {D : va_G} {cs : Nat → ClassId} {a : Nat → Nat} {r : Int32} {μ1 : Mem} (C : Cx p s m args c b_M_turn 6 "TentPegsModel") (hK : va_K D classes (tys cs) s) (hr : meth.sig.returnType = (some .int)) (hlk : meth.locks = false)  : ∀ (μ : Mem) (x1 : Int32) (x2 : Int32) (x3 : Int32) (x4 : Int32), F_M_turn_41  μ x1 x2 x3 x4 = some (r, μ1) → G p l e { frames := 5, cells := 0, slots := 0, locals := 122 } s m args below meth c (MQ below (Qi (AM a) D (WM a cs μ1) r) args s 0 0 (AM a)) D (AM a) 6 (WM a cs μ) 41 [(0, .ref (a 0)), (1, .int x1), (2, .int x2), (3, .int x3), (4, .int x4)] [] := by
  refine iter_ind (fun (K41 : Mem → Int32 → Int32 → Int32 → Int32 → Option (Int32 × Mem)) => ∀ (μ : Mem) (x1 : Int32) (x2 : Int32) (x3 : Int32) (x4 : Int32), K41 μ x1 x2 x3 x4 = some (r, μ1) → G p l e { frames := 5, cells := 0, slots := 0, locals := 122 } s m args below meth c (MQ below (Qi (AM a) D (WM a cs μ1) r) args s 0 0 (AM a)) D (AM a) 6 (WM a cs μ) 41 [(0, .ref (a 0)), (1, .int x1), (2, .int x2), (3, .int x3), (4, .int x4)] []) ?_ ?_ NF
  · intro μ x1 x2 x3 x4 hF
    exact none_no hF
  · intro K41 hK41 μ x1 x2 x3 x4 hF
    unfold S_M_turn_41 at hF
    refine g_iload (pc1 := 43) C d_M_turn_41 rfl 4 rfl ?_
    refine g_bipush (pc1 := 45) (v := (8 : Int32)) C d_M_turn_43 rfl bp_8 ?_
    refine g_icmp_ge (pc1 := 48) C 95 d_M_turn_45 rfl (by decide) (fun c1 => ?_) (fun c1 => ?_)
    · replace hF := ite_t hF c1
      refine g_aload_n (pc1 := 96) C d_M_turn_95 rfl rfl 0 rfl ?_
      refine g_iload_n (pc1 := 97) C d_M_turn_96 rfl rfl 3 rfl ?_
      refine g_aload_n (pc1 := 98) C d_M_turn_97 rfl rfl 0 rfl ?_
      obtain ⟨r1, hr1, hF⟩ := bnd_some hF
      refine g_callVI (pc1 := 101) (ws1 := WM a cs μ) (As := []) (rest := [.int x3, .ref (a 0)]) (b := a 0) C hK 0 (c_M_allOdds l D cs a μ  r1 hr1) s_M_allOdds kw_246 0 rfl rfl rfl ⟨Nat.le_of_ble_eq_true rfl, Nat.le_of_ble_eq_true rfl⟩ ⟨rfl, rfl⟩ d_M_turn_98 rfl rfl (Nat.le_of_ble_eq_true rfl) ?_
      obtain ⟨m2, hm2, hF⟩ := bnd_some hF
      refine g_callVV (pc1 := 104) (ws1 := WM a cs m2) (As := [.int x3, .int r1]) (rest := []) (b := a 0) C hK 2 (c_M_setPart l D cs a μ x3 r1 m2 hm2) s_M_setPart kw_248 0 rfl rfl rfl ⟨Nat.le_of_ble_eq_true rfl, Nat.le_of_ble_eq_true rfl⟩ ⟨rfl, rfl⟩ d_M_turn_101 rfl rfl (Nat.le_of_ble_eq_true rfl) ?_
      refine g_iload_n (pc1 := 105) C d_M_turn_104 rfl rfl 2 rfl ?_
      exact g_iret C hr hlk d_M_turn_105 (fst_of hF) (congrArg (WM a cs) (snd_of hF))
    · replace hF := ite_f hF c1
      refine g_aload_n (pc1 := 49) C d_M_turn_48 rfl rfl 0 rfl ?_
      refine g_iload_n (pc1 := 50) C d_M_turn_49 rfl rfl 1 rfl ?_
      refine g_iload (pc1 := 52) C d_M_turn_50 rfl 4 rfl ?_
      refine g_aload_n (pc1 := 53) C d_M_turn_52 rfl rfl 0 rfl ?_
      refine get_WM_0_field (pc1 := 56) C hK kw_172 d_M_turn_53 rfl ?_
      refine g_iconst (pc1 := 57) (v := (3 : Int32)) C d_M_turn_56 rfl ic_3 ?_
      have hg := gd_some hF
      replace hF := hg.2
      refine g_iald (pc1 := 58) C hK 2 (f := (μ.1 2)) rfl hg.1 d_M_turn_57 rfl ?_
      obtain ⟨r3, hr3, hF⟩ := bnd_some hF
      refine g_callVI (pc1 := 61) (ws1 := WM a cs μ) (As := [.int x1, .int x4, .int ((μ.1 2) (3 : Int32).toNatClampNeg)]) (rest := []) (b := a 0) C hK 3 (c_M_goodOdds l D cs a μ x1 x4 ((μ.1 2) (3 : Int32).toNatClampNeg) r3 hr3) s_M_goodOdds kw_247 0 rfl rfl rfl ⟨Nat.le_of_ble_eq_true rfl, Nat.le_of_ble_eq_true rfl⟩ ⟨rfl, rfl⟩ d_M_turn_58 rfl rfl (Nat.le_of_ble_eq_true rfl) ?_
      refine g_istore (pc1 := 63) (L1 := [(5, .int r3), (0, .ref (a 0)), (1, .int x1), (2, .int x2), (3, .int x3), (4, .int x4)]) C d_M_turn_61 rfl (by decide) rfl ?_
      refine g_iload (pc1 := 65) C d_M_turn_63 rfl 0 rfl ?_
      refine g_iload_n (pc1 := 66) C d_M_turn_65 rfl rfl 4 rfl ?_
      refine g_icmp_le (pc1 := 69) C 74 d_M_turn_66 rfl (by decide) (fun c1 => ?_) (fun c1 => ?_)
      · replace hF := ite_t hF c1
        refine g_iload_n (pc1 := 75) C d_M_turn_74 rfl rfl 3 rfl ?_
        exact g_sub [1, 2, 4, 5, 0] rfl (p_M_turn_75 C hK hr hlk K41 hK41 μ x1 x3 x4 r3 x2 hF)
      · replace hF := ite_f hF c1
        refine g_iload (pc1 := 71) C d_M_turn_69 rfl 5 rfl ?_
        refine g_goto C 75 d_M_turn_71 (by decide) ?_
        exact g_sub [1, 2, 4, 5, 0] rfl (p_M_turn_75 C hK hr hlk K41 hK41 μ x1 x3 x4 r3 x4 hF)
set_option maxHeartbeats 4000000 in
set_option maxRecDepth 100000 in
theorem c_M_turn (l : Launch) (D : va_G) (cs : Nat → ClassId) (a : Nat → Nat) (μ : Mem) (x1 : Int32) (r : Int32) (μ1 : Mem) (hF : F_M_turn μ x1 = some (r, μ1)) : MetI l y_M_turn b_M_turn 6 (some .int) { frames := 5, cells := 0, slots := 0, locals := 122 } D cs (AM a) (WM a cs μ) [.ref (a 0), .int x1] r (WM a cs μ1) := by
  refine met_of rfl (by decide +kernel) (Nat.le_of_ble_eq_true rfl) (fun p e s m below meth c C hK hr hlk => ?_)
  unfold F_M_turn at hF
  show G p l e { frames := 5, cells := 0, slots := 0, locals := 122 } s m _ below meth c _ D (AM a) 6 (WM a cs μ) 0 [(0, .ref (a 0)), (1, .int x1)] []
  refine g_aload_n (pc1 := 1) C d_M_turn_0 rfl rfl 0 rfl ?_
  refine g_iconst (pc1 := 2) (v := (0 : Int32)) C d_M_turn_1 rfl ic_0 ?_
  refine put_WM_0_thrown (pc1 := 5) C hK kw_178 d_M_turn_2 rfl ?_
  refine g_iload_n (pc1 := 6) C d_M_turn_5 rfl rfl 1 rfl ?_
  refine g_i2l (pc1 := 7) C d_M_turn_6 rfl ?_
  refine g_lconst (pc1 := 8) (v := (0 : Int64)) C d_M_turn_7 rfl lc_0 ?_
  refine g_ldc2 (pc1 := 11) (v := (60 : Int64)) C d_M_turn_8 rfl kw_176 ?_
  obtain ⟨r1, hr1, hF⟩ := bnd_some hF
  refine g_callSI (pc1 := 14) (As := [.long (x1.toInt64), .long (0 : Int64), .long (60 : Int64)]) (rest := []) C 3 (c_M_in l (x1.toInt64) (0 : Int64) (60 : Int64) r1 hr1) s_M_in kw_173 rfl ⟨Nat.le_of_ble_eq_true rfl, Nat.le_of_ble_eq_true rfl⟩ ⟨rfl, rfl⟩ d_M_turn_11 rfl rfl (Nat.le_of_ble_eq_true rfl) ?_
  refine g_if_ne (pc1 := 17) C 22 d_M_turn_14 rfl (by decide) (fun c1 => ?_) (fun c1 => ?_)
  · replace hF := ite_f hF c1
    refine g_aload_n (pc1 := 23) C d_M_turn_22 rfl rfl 0 rfl ?_
    obtain ⟨r2, hr2, hF⟩ := bnd_some hF
    refine g_callVI (pc1 := 26) (ws1 := WM a cs (stI μ 0 0 (0 : Int32))) (As := []) (rest := []) (b := a 0) C hK 0 (c_M_allOdds l D cs a (stI μ 0 0 (0 : Int32))  r2 hr2) s_M_allOdds kw_246 0 rfl rfl rfl ⟨Nat.le_of_ble_eq_true rfl, Nat.le_of_ble_eq_true rfl⟩ ⟨rfl, rfl⟩ d_M_turn_23 rfl rfl (Nat.le_of_ble_eq_true rfl) ?_
    refine g_if_ne (pc1 := 29) C 34 d_M_turn_26 rfl (by decide) (fun c1 => ?_) (fun c1 => ?_)
    · replace hF := ite_f hF c1
      refine g_iconst (pc1 := 35) (v := (0 : Int32)) C d_M_turn_34 rfl ic_0 ?_
      refine g_istore_n (pc1 := 36) (L1 := [(2, .int (0 : Int32)), (0, .ref (a 0)), (1, .int x1)]) C d_M_turn_35 rfl rfl (by decide) rfl ?_
      refine g_iconst (pc1 := 37) (v := (-1 : Int32)) C d_M_turn_36 rfl ic_m1 ?_
      refine g_istore_n (pc1 := 38) (L1 := [(3, .int (-1 : Int32)), (2, .int (0 : Int32)), (0, .ref (a 0)), (1, .int x1)]) C d_M_turn_37 rfl rfl (by decide) rfl ?_
      refine g_iconst (pc1 := 39) (v := (0 : Int32)) C d_M_turn_38 rfl ic_0 ?_
      refine g_istore (pc1 := 41) (L1 := [(4, .int (0 : Int32)), (3, .int (-1 : Int32)), (2, .int (0 : Int32)), (0, .ref (a 0)), (1, .int x1)]) C d_M_turn_39 rfl (by decide) rfl ?_
      exact g_sub [3, 4, 2, 1, 0] rfl (p_M_turn_41 C hK hr hlk  (stI μ 0 0 (0 : Int32)) x1 (0 : Int32) (-1 : Int32) (0 : Int32) hF)
    · replace hF := ite_t hF c1
      refine g_aload_n (pc1 := 30) C d_M_turn_29 rfl rfl 0 rfl ?_
      obtain ⟨⟨r3, m3⟩, hm3, hF⟩ := bnd_some hF
      refine g_callVI (pc1 := 33) (ws1 := WM a cs m3) (As := []) (rest := []) (b := a 0) C hK 0 (c_M_no l D cs a (stI μ 0 0 (0 : Int32))  r3 m3 hm3) s_M_no kw_189 0 rfl rfl rfl ⟨Nat.le_of_ble_eq_true rfl, Nat.le_of_ble_eq_true rfl⟩ ⟨rfl, rfl⟩ d_M_turn_30 rfl rfl (Nat.le_of_ble_eq_true rfl) ?_
      exact g_iret C hr hlk d_M_turn_33 (fst_of hF) (congrArg (WM a cs) (snd_of hF))
  · replace hF := ite_t hF c1
    refine g_aload_n (pc1 := 18) C d_M_turn_17 rfl rfl 0 rfl ?_
    obtain ⟨⟨r4, m4⟩, hm4, hF⟩ := bnd_some hF
    refine g_callVI (pc1 := 21) (ws1 := WM a cs m4) (As := []) (rest := []) (b := a 0) C hK 0 (c_M_bad l D cs a (stI μ 0 0 (0 : Int32))  r4 m4 hm4) s_M_bad kw_182 0 rfl rfl rfl ⟨Nat.le_of_ble_eq_true rfl, Nat.le_of_ble_eq_true rfl⟩ ⟨rfl, rfl⟩ d_M_turn_18 rfl rfl (Nat.le_of_ble_eq_true rfl) ?_
    exact g_iret C hr hlk d_M_turn_21 (fst_of hF) (congrArg (WM a cs) (snd_of hF))
