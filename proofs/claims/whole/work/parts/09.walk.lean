-- TentPegs.stand(IZ)I
set_option maxHeartbeats 4000000 in
set_option maxRecDepth 100000 in
theorem c_T_stand (l : Launch) (D : va_G) (cs : Nat → ClassId) (a : Nat → Nat) (μ : Mem) (x1 : Int32) (x2 : Int32) (r : Int32) (μ1 : Mem) (hF : F_T_stand μ x1 x2 = some (r, μ1)) : MetI l y_T_stand b_T_stand 3 (some .int) { frames := 2, cells := 0, slots := 0, locals := 46 } D cs (AC a) (WC a cs μ) [.ref (a 0), .int x1, .int x2] r (WC a cs μ1) := by
  refine met_of rfl (by decide +kernel) (Nat.le_of_ble_eq_true rfl) (fun p e s m below meth c C hK hr hlk => ?_)
  unfold F_T_stand at hF
  show G p l e { frames := 2, cells := 0, slots := 0, locals := 46 } s m _ below meth c _ D (AC a) 3 (WC a cs μ) 0 [(0, .ref (a 0)), (1, .int x1), (2, .int x2)] []
  refine g_aload_n (pc1 := 1) C d_T_stand_0 rfl rfl 0 rfl ?_
  refine get_WC_0_field (pc1 := 4) C hK kw_12 d_T_stand_1 rfl ?_
  refine g_iload_n (pc1 := 5) C d_T_stand_4 rfl rfl 1 rfl ?_
  obtain ⟨r1, hr1, hF⟩ := bnd_some hF
  refine g_callFI (pc1 := 8) (ws1 := WC a cs μ) (As := [.int x1]) (rest := []) (b := a 1) C hK 1 (frR_1 a cs μ) (c_F_hasPeg l D cs (off 1 a) (sub 1 μ) x1 r1 hr1) s_F_hasPeg kw_85 1 rfl rfl rfl ⟨Nat.le_of_ble_eq_true rfl, Nat.le_of_ble_eq_true rfl⟩ ⟨rfl, rfl⟩ d_T_stand_5 rfl rfl (Nat.le_of_ble_eq_true rfl) ?_
  refine g_if_ne (pc1 := 11) C 18 d_T_stand_8 rfl (by decide) (fun c1 => ?_) (fun c1 => ?_)
  · replace hF := ite_f hF c1
    refine g_aload_n (pc1 := 19) C d_T_stand_18 rfl rfl 0 rfl ?_
    refine get_WC_0_field (pc1 := 22) C hK kw_12 d_T_stand_19 rfl ?_
    refine get_WC_1_standing (pc1 := 25) C hK (v := (μ.1 1 3)) rfl kw_78 d_T_stand_22 rfl ?_
    refine g_iload_n (pc1 := 26) C d_T_stand_25 rfl rfl 1 rfl ?_
    obtain ⟨r2, hr2, hF⟩ := bnd_some hF
    refine g_callSI (pc1 := 29) (As := [.int (μ.1 1 3), .int x1]) (rest := []) C 2 (c_T_has l (μ.1 1 3) x1 r2 hr2) s_T_has kw_86 rfl ⟨Nat.le_of_ble_eq_true rfl, Nat.le_of_ble_eq_true rfl⟩ ⟨rfl, rfl⟩ d_T_stand_26 rfl rfl (Nat.le_of_ble_eq_true rfl) ?_
    refine g_iload_n (pc1 := 30) C d_T_stand_29 rfl rfl 2 rfl ?_
    refine g_icmp_ne (pc1 := 33) C 38 d_T_stand_30 rfl (by decide) (fun c1 => ?_) (fun c1 => ?_)
    · replace hF := ite_f hF c1
      refine g_aload_n (pc1 := 39) C d_T_stand_38 rfl rfl 0 rfl ?_
      refine get_WC_0_field (pc1 := 42) C hK kw_12 d_T_stand_39 rfl ?_
      obtain ⟨m3, hm3, hF⟩ := bnd_some hF
      refine g_callFV (pc1 := 45) (ws1 := WC a cs (put6 1 0 μ m3)) (As := []) (rest := []) (b := a 1) C hK 0 (fr_1 a cs μ m3) (c_F_remember l D cs (off 1 a) (sub 1 μ)  m3 hm3) s_F_remember kw_80 1 rfl rfl rfl ⟨Nat.le_of_ble_eq_true rfl, Nat.le_of_ble_eq_true rfl⟩ ⟨rfl, rfl⟩ d_T_stand_42 rfl rfl (Nat.le_of_ble_eq_true rfl) ?_
      refine g_aload_n (pc1 := 46) C d_T_stand_45 rfl rfl 0 rfl ?_
      refine get_WC_0_field (pc1 := 49) C hK kw_12 d_T_stand_46 rfl ?_
      refine g_aload_n (pc1 := 50) C d_T_stand_49 rfl rfl 0 rfl ?_
      refine get_WC_0_field (pc1 := 53) C hK kw_12 d_T_stand_50 rfl ?_
      refine get_WC_1_standing (pc1 := 56) C hK (v := (m3.1 0 3)) rfl kw_78 d_T_stand_53 rfl ?_
      refine g_iload_n (pc1 := 57) C d_T_stand_56 rfl rfl 1 rfl ?_
      refine g_iload_n (pc1 := 58) C d_T_stand_57 rfl rfl 2 rfl ?_
      obtain ⟨r4, hr4, hF⟩ := bnd_some hF
      refine g_callSI (pc1 := 61) (As := [.int (m3.1 0 3), .int x1, .int x2]) (rest := [.ref (a 1)]) C 3 (c_T_with l (m3.1 0 3) x1 x2 r4 hr4) s_T_with kw_87 rfl ⟨Nat.le_of_ble_eq_true rfl, Nat.le_of_ble_eq_true rfl⟩ ⟨rfl, rfl⟩ d_T_stand_58 rfl rfl (Nat.le_of_ble_eq_true rfl) ?_
      refine put_WC_1_standing (pc1 := 64) C hK kw_78 d_T_stand_61 rfl ?_
      refine g_iconst (pc1 := 65) (v := (1 : Int32)) C d_T_stand_64 rfl ic_1 ?_
      exact g_iret C hr hlk d_T_stand_65 (fst_of hF) (congrArg (WC a cs) (snd_of hF))
    · replace hF := ite_t hF c1
      refine g_aload_n (pc1 := 34) C d_T_stand_33 rfl rfl 0 rfl ?_
      obtain ⟨⟨r5, m5⟩, hm5, hF⟩ := bnd_some hF
      refine g_callVI (pc1 := 37) (ws1 := WC a cs m5) (As := []) (rest := []) (b := a 0) C hK 0 (c_T_no l D cs a μ  r5 m5 hm5) s_T_no kw_27 0 rfl rfl rfl ⟨Nat.le_of_ble_eq_true rfl, Nat.le_of_ble_eq_true rfl⟩ ⟨rfl, rfl⟩ d_T_stand_34 rfl rfl (Nat.le_of_ble_eq_true rfl) ?_
      exact g_iret C hr hlk d_T_stand_37 (fst_of hF) (congrArg (WC a cs) (snd_of hF))
  · replace hF := ite_t hF c1
    refine g_aload_n (pc1 := 12) C d_T_stand_11 rfl rfl 0 rfl ?_
    refine g_bipush (pc1 := 14) (v := (-2 : Int32)) C d_T_stand_12 rfl bp_m2 ?_
    obtain ⟨⟨r6, m6⟩, hm6, hF⟩ := bnd_some hF
    refine g_callVI (pc1 := 17) (ws1 := WC a cs m6) (As := [.int (-2 : Int32)]) (rest := []) (b := a 0) C hK 1 (c_T_bad l D cs a μ (-2 : Int32) r6 m6 hm6) s_T_bad kw_15 0 rfl rfl rfl ⟨Nat.le_of_ble_eq_true rfl, Nat.le_of_ble_eq_true rfl⟩ ⟨rfl, rfl⟩ d_T_stand_14 rfl rfl (Nat.le_of_ble_eq_true rfl) ?_
    exact g_iret C hr hlk d_T_stand_17 (fst_of hF) (congrArg (WC a cs) (snd_of hF))
-- TentPegs$Field.goBack()Z
set_option maxHeartbeats 4000000 in
set_option maxRecDepth 100000 in
theorem c_F_goBack (l : Launch) (D : va_G) (cs : Nat → ClassId) (a : Nat → Nat) (μ : Mem)  (r : Int32) (μ1 : Mem) (hF : F_F_goBack μ = some (r, μ1)) : MetI l y_F_goBack b_F_goBack 1 (some .boolean) { frames := 0, cells := 0, slots := 0, locals := 0 } D cs (AF a) (WF a cs μ) [.ref (a 0)] r (WF a cs μ1) := by
  refine met_of rfl (by decide +kernel) (Nat.le_of_ble_eq_true rfl) (fun p e s m below meth c C hK hr hlk => ?_)
  unfold F_F_goBack at hF
  show G p l e { frames := 0, cells := 0, slots := 0, locals := 0 } s m _ below meth c _ D (AF a) 1 (WF a cs μ) 0 [(0, .ref (a 0))] []
  refine g_aload_n (pc1 := 1) C d_F_goBack_0 rfl rfl 0 rfl ?_
  refine get_WF_0_undoable (pc1 := 4) C hK (v := (μ.1 0 4)) rfl kw_8 d_F_goBack_1 rfl ?_
  refine g_if_ne (pc1 := 7) C 9 d_F_goBack_4 rfl (by decide) (fun c1 => ?_) (fun c1 => ?_)
  · replace hF := ite_f hF c1
    refine g_aload_n (pc1 := 10) C d_F_goBack_9 rfl rfl 0 rfl ?_
    refine g_dup (pc1 := 11) C d_F_goBack_10 rfl rfl ?_
    refine get_WF_0_undoable (pc1 := 14) C hK (v := (μ.1 0 4)) rfl kw_8 d_F_goBack_11 rfl ?_
    refine g_iconst (pc1 := 15) (v := (1 : Int32)) C d_F_goBack_14 rfl ic_1 ?_
    refine g_isub (pc1 := 16) C d_F_goBack_15 rfl ?_
    refine put_WF_0_undoable (pc1 := 19) C hK kw_8 d_F_goBack_16 rfl ?_
    refine g_aload_n (pc1 := 20) C d_F_goBack_19 rfl rfl 0 rfl ?_
    refine g_aload_n (pc1 := 21) C d_F_goBack_20 rfl rfl 0 rfl ?_
    refine get_WF_0_stoodBefore (pc1 := 24) C hK kw_39 d_F_goBack_21 rfl ?_
    refine g_aload_n (pc1 := 25) C d_F_goBack_24 rfl rfl 0 rfl ?_
    refine get_WF_0_undoable (pc1 := 28) C hK (v := ((μ.1 0 4) - (1 : Int32))) rfl kw_8 d_F_goBack_25 rfl ?_
    have hg := gd_some hF
    replace hF := hg.2
    refine g_iald (pc1 := 29) C hK 5 (f := (μ.1 5)) rfl hg.1 d_F_goBack_28 rfl ?_
    refine put_WF_0_standing (pc1 := 32) C hK kw_7 d_F_goBack_29 rfl ?_
    refine g_iconst (pc1 := 33) (v := (1 : Int32)) C d_F_goBack_32 rfl ic_1 ?_
    exact g_zret C hr hlk rfl d_F_goBack_33 (fst_of hF) (congrArg (WF a cs) (snd_of hF))
  · replace hF := ite_t hF c1
    refine g_iconst (pc1 := 8) (v := (0 : Int32)) C d_F_goBack_7 rfl ic_0 ?_
    exact g_zret C hr hlk rfl d_F_goBack_8 (fst_of hF) (congrArg (WF a cs) (snd_of hF))
-- TentPegs.undo()I
set_option maxHeartbeats 4000000 in
set_option maxRecDepth 100000 in
theorem c_T_undo (l : Launch) (D : va_G) (cs : Nat → ClassId) (a : Nat → Nat) (μ : Mem)  (r : Int32) (μ1 : Mem) (hF : F_T_undo μ = some (r, μ1)) : MetI l y_T_undo b_T_undo 1 (some .int) { frames := 1, cells := 0, slots := 0, locals := 20 } D cs (AC a) (WC a cs μ) [.ref (a 0)] r (WC a cs μ1) := by
  refine met_of rfl (by decide +kernel) (Nat.le_of_ble_eq_true rfl) (fun p e s m below meth c C hK hr hlk => ?_)
  unfold F_T_undo at hF
  show G p l e { frames := 1, cells := 0, slots := 0, locals := 20 } s m _ below meth c _ D (AC a) 1 (WC a cs μ) 0 [(0, .ref (a 0))] []
  refine g_aload_n (pc1 := 1) C d_T_undo_0 rfl rfl 0 rfl ?_
  refine get_WC_0_field (pc1 := 4) C hK kw_12 d_T_undo_1 rfl ?_
  obtain ⟨⟨r1, m1⟩, hm1, hF⟩ := bnd_some hF
  refine g_callFI (pc1 := 7) (ws1 := WC a cs (put6 1 0 μ m1)) (As := []) (rest := []) (b := a 1) C hK 0 (fr_1 a cs μ m1) (c_F_goBack l D cs (off 1 a) (sub 1 μ)  r1 m1 hm1) s_F_goBack kw_88 1 rfl rfl rfl ⟨Nat.le_of_ble_eq_true rfl, Nat.le_of_ble_eq_true rfl⟩ ⟨rfl, rfl⟩ d_T_undo_4 rfl rfl (Nat.le_of_ble_eq_true rfl) ?_
  refine g_if_eq (pc1 := 10) C 14 d_T_undo_7 rfl (by decide) (fun c1 => ?_) (fun c1 => ?_)
  · replace hF := ite_t hF c1
    refine g_aload_n (pc1 := 15) C d_T_undo_14 rfl rfl 0 rfl ?_
    obtain ⟨⟨r2, m2⟩, hm2, hF⟩ := bnd_some hF
    refine g_callVI (pc1 := 18) (ws1 := WC a cs m2) (As := []) (rest := []) (b := a 0) C hK 0 (c_T_no l D cs a (put6 1 0 μ m1)  r2 m2 hm2) s_T_no kw_27 0 rfl rfl rfl ⟨Nat.le_of_ble_eq_true rfl, Nat.le_of_ble_eq_true rfl⟩ ⟨rfl, rfl⟩ d_T_undo_15 rfl rfl (Nat.le_of_ble_eq_true rfl) ?_
    exact g_iret C hr hlk d_T_undo_18 (fst_of hF) (congrArg (WC a cs) (snd_of hF))
  · replace hF := ite_f hF c1
    refine g_iconst (pc1 := 11) (v := (1 : Int32)) C d_T_undo_10 rfl ic_1 ?_
    refine g_goto C 18 d_T_undo_11 (by decide) ?_
    exact g_iret C hr hlk d_T_undo_18 (fst_of hF) (congrArg (WC a cs) (snd_of hF))
-- TentPegs.of(II)I
set_option maxHeartbeats 4000000 in
set_option maxRecDepth 100000 in
theorem c_T_of (l : Launch) (D : va_G) (cs : Nat → ClassId) (a : Nat → Nat) (μ : Mem) (x1 : Int32) (x2 : Int32) (r : Int32) (μ1 : Mem) (hF : F_T_of μ x1 x2 = some (r, μ1)) : MetI l y_T_of b_T_of 3 (some .int) { frames := 4, cells := 0, slots := 0, locals := 87 } D cs (AC a) (WC a cs μ) [.ref (a 0), .int x1, .int x2] r (WC a cs μ1) := by
  refine met_of rfl (by decide +kernel) (Nat.le_of_ble_eq_true rfl) (fun p e s m below meth c C hK hr hlk => ?_)
  unfold F_T_of at hF
  show G p l e { frames := 4, cells := 0, slots := 0, locals := 87 } s m _ below meth c _ D (AC a) 3 (WC a cs μ) 0 [(0, .ref (a 0)), (1, .int x1), (2, .int x2)] []
  refine g_aload_n (pc1 := 1) C d_T_of_0 rfl rfl 0 rfl ?_
  refine get_WC_0_field (pc1 := 4) C hK kw_12 d_T_of_1 rfl ?_
  refine g_iload_n (pc1 := 5) C d_T_of_4 rfl rfl 1 rfl ?_
  obtain ⟨r1, hr1, hF⟩ := bnd_some hF
  refine g_callFI (pc1 := 8) (ws1 := WC a cs μ) (As := [.int x1]) (rest := []) (b := a 1) C hK 1 (frR_1 a cs μ) (c_F_hasPeg l D cs (off 1 a) (sub 1 μ) x1 r1 hr1) s_F_hasPeg kw_85 1 rfl rfl rfl ⟨Nat.le_of_ble_eq_true rfl, Nat.le_of_ble_eq_true rfl⟩ ⟨rfl, rfl⟩ d_T_of_5 rfl rfl (Nat.le_of_ble_eq_true rfl) ?_
  refine g_if_ne (pc1 := 11) C 18 d_T_of_8 rfl (by decide) (fun c1 => ?_) (fun c1 => ?_)
  · replace hF := ite_f hF c1
    refine g_iload_n (pc1 := 19) C d_T_of_18 rfl rfl 2 rfl ?_
    by_cases h0 : x2 = (0 : Int32)
    · replace hF := ite_t hF h0
      refine g_tblIn C 56 d_T_of_19 0 (by rw [h0]; exact ti_0) (by decide) (by decide) rfl (by decide) ?_
      refine g_aload_n (pc1 := 57) C d_T_of_56 rfl rfl 0 rfl ?_
      refine get_WC_0_field (pc1 := 60) C hK kw_12 d_T_of_57 rfl ?_
      refine get_WC_1_kinds (pc1 := 63) C hK kw_18 d_T_of_60 rfl ?_
      refine g_iload_n (pc1 := 64) C d_T_of_63 rfl rfl 1 rfl ?_
      have hg := gd_some hF
      replace hF := hg.2
      refine g_iald (pc1 := 65) C hK 2 (f := (μ.1 2)) rfl hg.1 d_T_of_64 rfl ?_
      exact g_iret C hr hlk d_T_of_65 (fst_of hF) (congrArg (WC a cs) (snd_of hF))
    replace hF := ite_f hF h0
    by_cases h1 : x2 = (1 : Int32)
    · replace hF := ite_t hF h1
      refine g_tblIn C 66 d_T_of_19 1 (by rw [h1]; exact ti_1) (by decide) (by decide) rfl (by decide) ?_
      refine g_aload_n (pc1 := 67) C d_T_of_66 rfl rfl 0 rfl ?_
      refine get_WC_0_field (pc1 := 70) C hK kw_12 d_T_of_67 rfl ?_
      refine get_WC_1_depths (pc1 := 73) C hK kw_89 d_T_of_70 rfl ?_
      refine g_iload_n (pc1 := 74) C d_T_of_73 rfl rfl 1 rfl ?_
      have hg := gd_some hF
      replace hF := hg.2
      refine g_iald (pc1 := 75) C hK 3 (f := (μ.1 3)) rfl hg.1 d_T_of_74 rfl ?_
      exact g_iret C hr hlk d_T_of_75 (fst_of hF) (congrArg (WC a cs) (snd_of hF))
    replace hF := ite_f hF h1
    by_cases h2 : x2 = (2 : Int32)
    · replace hF := ite_t hF h2
      refine g_tblIn C 76 d_T_of_19 2 (by rw [h2]; exact ti_2) (by decide) (by decide) rfl (by decide) ?_
      refine g_aload_n (pc1 := 77) C d_T_of_76 rfl rfl 0 rfl ?_
      refine get_WC_0_field (pc1 := 80) C hK kw_12 d_T_of_77 rfl ?_
      refine get_WC_1_grounds (pc1 := 83) C hK kw_90 d_T_of_80 rfl ?_
      refine g_iload_n (pc1 := 84) C d_T_of_83 rfl rfl 1 rfl ?_
      have hg := gd_some hF
      replace hF := hg.2
      refine g_iald (pc1 := 85) C hK 4 (f := (μ.1 4)) rfl hg.1 d_T_of_84 rfl ?_
      exact g_iret C hr hlk d_T_of_85 (fst_of hF) (congrArg (WC a cs) (snd_of hF))
    replace hF := ite_f hF h2
    by_cases h3 : x2 = (3 : Int32)
    · replace hF := ite_t hF h3
      refine g_tblIn C 86 d_T_of_19 3 (by rw [h3]; exact ti_3) (by decide) (by decide) rfl (by decide) ?_
      refine g_aload_n (pc1 := 87) C d_T_of_86 rfl rfl 0 rfl ?_
      obtain ⟨m2, hm2, hF⟩ := bnd_some hF
      refine g_callVR (pc1 := 90) (ws1 := WC a cs m2) (As := []) (rest := []) (b := a 0) C hK 0 (c_T_asItIs l D cs a μ  m2 hm2) s_T_asItIs kw_81 0 rfl rfl rfl ⟨Nat.le_of_ble_eq_true rfl, Nat.le_of_ble_eq_true rfl⟩ ⟨rfl, rfl⟩ d_T_of_87 rfl rfl (Nat.le_of_ble_eq_true rfl) ?_
      refine g_iload_n (pc1 := 91) C d_T_of_90 rfl rfl 1 rfl ?_
      obtain ⟨r3, hr3, hF⟩ := bnd_some hF
      refine g_callVI (pc1 := 94) (ws1 := WC a cs m2) (As := [.int x1]) (rest := []) (b := a 7) C hK 1 (c_G_holds l D cs a m2 x1 r3 hr3) s_G_holds kw_91 7 rfl rfl rfl ⟨Nat.le_of_ble_eq_true rfl, Nat.le_of_ble_eq_true rfl⟩ ⟨rfl, rfl⟩ d_T_of_91 rfl rfl (Nat.le_of_ble_eq_true rfl) ?_
      exact g_iret C hr hlk d_T_of_94 (fst_of hF) (congrArg (WC a cs) (snd_of hF))
    replace hF := ite_f hF h3
    by_cases h4 : x2 = (4 : Int32)
    · replace hF := ite_t hF h4
      refine g_tblIn C 95 d_T_of_19 4 (by rw [h4]; exact ti_4) (by decide) (by decide) rfl (by decide) ?_
      refine g_aload_n (pc1 := 96) C d_T_of_95 rfl rfl 0 rfl ?_
      refine get_WC_0_field (pc1 := 99) C hK kw_12 d_T_of_96 rfl ?_
      refine get_WC_1_standing (pc1 := 102) C hK (v := (μ.1 1 3)) rfl kw_78 d_T_of_99 rfl ?_
      refine g_iload_n (pc1 := 103) C d_T_of_102 rfl rfl 1 rfl ?_
      obtain ⟨r4, hr4, hF⟩ := bnd_some hF
      refine g_callSI (pc1 := 106) (As := [.int (μ.1 1 3), .int x1]) (rest := []) C 2 (c_T_has l (μ.1 1 3) x1 r4 hr4) s_T_has kw_86 rfl ⟨Nat.le_of_ble_eq_true rfl, Nat.le_of_ble_eq_true rfl⟩ ⟨rfl, rfl⟩ d_T_of_103 rfl rfl (Nat.le_of_ble_eq_true rfl) ?_
      refine g_if_eq (pc1 := 109) C 113 d_T_of_106 rfl (by decide) (fun c1 => ?_) (fun c1 => ?_)
      · replace hF := ite_t hF c1
        refine g_iconst (pc1 := 114) (v := (0 : Int32)) C d_T_of_113 rfl ic_0 ?_
        exact g_iret C hr hlk d_T_of_114 (fst_of hF) (congrArg (WC a cs) (snd_of hF))
      · replace hF := ite_f hF c1
        refine g_iconst (pc1 := 110) (v := (1 : Int32)) C d_T_of_109 rfl ic_1 ?_
        refine g_goto C 114 d_T_of_110 (by decide) ?_
        exact g_iret C hr hlk d_T_of_114 (fst_of hF) (congrArg (WC a cs) (snd_of hF))
    replace hF := ite_f hF h4
    by_cases h5 : x2 = (5 : Int32)
    · replace hF := ite_t hF h5
      refine g_tblIn C 115 d_T_of_19 5 (by rw [h5]; exact ti_5) (by decide) (by decide) rfl (by decide) ?_
      refine g_aload_n (pc1 := 116) C d_T_of_115 rfl rfl 0 rfl ?_
      obtain ⟨m5, hm5, hF⟩ := bnd_some hF
      refine g_callVR (pc1 := 119) (ws1 := WC a cs m5) (As := []) (rest := []) (b := a 0) C hK 0 (c_T_asItIs l D cs a μ  m5 hm5) s_T_asItIs kw_81 0 rfl rfl rfl ⟨Nat.le_of_ble_eq_true rfl, Nat.le_of_ble_eq_true rfl⟩ ⟨rfl, rfl⟩ d_T_of_116 rfl rfl (Nat.le_of_ble_eq_true rfl) ?_
      refine g_iload_n (pc1 := 120) C d_T_of_119 rfl rfl 1 rfl ?_
      obtain ⟨r6, hr6, hF⟩ := bnd_some hF
      refine g_callVI (pc1 := 123) (ws1 := WC a cs m5) (As := [.int x1]) (rest := []) (b := a 7) C hK 1 (c_G_wayOf l D cs a m5 x1 r6 hr6) s_G_wayOf kw_92 7 rfl rfl rfl ⟨Nat.le_of_ble_eq_true rfl, Nat.le_of_ble_eq_true rfl⟩ ⟨rfl, rfl⟩ d_T_of_120 rfl rfl (Nat.le_of_ble_eq_true rfl) ?_
      exact g_iret C hr hlk d_T_of_123 (fst_of hF) (congrArg (WC a cs) (snd_of hF))
    replace hF := ite_f hF h5
    have q0 := ne_toInt ti_0 h0
    have q1 := ne_toInt ti_1 h1
    have q2 := ne_toInt ti_2 h2
    have q3 := ne_toInt ti_3 h3
    have q4 := ne_toInt ti_4 h4
    have q5 := ne_toInt ti_5 h5
    refine g_tblOut C 124 d_T_of_19 (by omega) (by decide) ?_
    refine g_aload_n (pc1 := 125) C d_T_of_124 rfl rfl 0 rfl ?_
    refine g_bipush (pc1 := 127) (v := (-2 : Int32)) C d_T_of_125 rfl bp_m2 ?_
    obtain ⟨⟨r7, m7⟩, hm7, hF⟩ := bnd_some hF
    refine g_callVI (pc1 := 130) (ws1 := WC a cs m7) (As := [.int (-2 : Int32)]) (rest := []) (b := a 0) C hK 1 (c_T_bad l D cs a μ (-2 : Int32) r7 m7 hm7) s_T_bad kw_15 0 rfl rfl rfl ⟨Nat.le_of_ble_eq_true rfl, Nat.le_of_ble_eq_true rfl⟩ ⟨rfl, rfl⟩ d_T_of_127 rfl rfl (Nat.le_of_ble_eq_true rfl) ?_
    exact g_iret C hr hlk d_T_of_130 (fst_of hF) (congrArg (WC a cs) (snd_of hF))
  · replace hF := ite_t hF c1
    refine g_aload_n (pc1 := 12) C d_T_of_11 rfl rfl 0 rfl ?_
    refine g_bipush (pc1 := 14) (v := (-2 : Int32)) C d_T_of_12 rfl bp_m2 ?_
    obtain ⟨⟨r8, m8⟩, hm8, hF⟩ := bnd_some hF
    refine g_callVI (pc1 := 17) (ws1 := WC a cs m8) (As := [.int (-2 : Int32)]) (rest := []) (b := a 0) C hK 1 (c_T_bad l D cs a μ (-2 : Int32) r8 m8 hm8) s_T_bad kw_15 0 rfl rfl rfl ⟨Nat.le_of_ble_eq_true rfl, Nat.le_of_ble_eq_true rfl⟩ ⟨rfl, rfl⟩ d_T_of_14 rfl rfl (Nat.le_of_ble_eq_true rfl) ?_
    exact g_iret C hr hlk d_T_of_17 (fst_of hF) (congrArg (WC a cs) (snd_of hF))
-- TentPegs.pull(III)I
set_option maxHeartbeats 4000000 in
set_option maxRecDepth 100000 in
theorem p_T_pull_19 {p : Program} {l : Launch} {e : Env} {s : State} {m : MethodId} {args : Array Value} {below : List Frame} {meth : Method} {c : Code} {D : va_G} {cs : Nat → ClassId} {a : Nat → Nat} {r : Int32} {μ1 : Mem} (C : Cx p s m args c b_T_pull 4 "TentPegs") (hK : va_K D classes (tys cs) s) (hr : meth.sig.returnType = (some .int)) (hlk : meth.locks = false)  (μ : Mem)  (hF : F_T_pull_19  μ = some (r, μ1)) : G p l e { frames := 3, cells := 0, slots := 0, locals := 67 } s m args below meth c (MQ below (Qi (AC a) D (WC a cs μ1) r) args s 0 0 (AC a)) D (AC a) 4 (WC a cs μ) 19 [(0, .ref (a 0))] [] := by
  unfold F_T_pull_19 at hF
  refine g_aload_n (pc1 := 20) C d_T_pull_19 rfl rfl 0 rfl ?_
  refine g_bipush (pc1 := 22) (v := (-2 : Int32)) C d_T_pull_20 rfl bp_m2 ?_
  obtain ⟨⟨r1, m1⟩, hm1, hF⟩ := bnd_some hF
  refine g_callVI (pc1 := 25) (ws1 := WC a cs m1) (As := [.int (-2 : Int32)]) (rest := []) (b := a 0) C hK 1 (c_T_bad l D cs a μ (-2 : Int32) r1 m1 hm1) s_T_bad kw_15 0 rfl rfl rfl ⟨Nat.le_of_ble_eq_true rfl, Nat.le_of_ble_eq_true rfl⟩ ⟨rfl, rfl⟩ d_T_pull_22 rfl rfl (Nat.le_of_ble_eq_true rfl) ?_
  exact g_iret C hr hlk d_T_pull_25 (fst_of hF) (congrArg (WC a cs) (snd_of hF))
set_option maxHeartbeats 4000000 in
set_option maxRecDepth 100000 in
theorem c_T_pull (l : Launch) (D : va_G) (cs : Nat → ClassId) (a : Nat → Nat) (μ : Mem) (x1 : Int32) (x2 : Int32) (x3 : Int32) (r : Int32) (μ1 : Mem) (hF : F_T_pull μ x1 x2 x3 = some (r, μ1)) : MetI l y_T_pull b_T_pull 4 (some .int) { frames := 3, cells := 0, slots := 0, locals := 67 } D cs (AC a) (WC a cs μ) [.ref (a 0), .int x1, .int x2, .int x3] r (WC a cs μ1) := by
  refine met_of rfl (by decide +kernel) (Nat.le_of_ble_eq_true rfl) (fun p e s m below meth c C hK hr hlk => ?_)
  unfold F_T_pull at hF
  show G p l e { frames := 3, cells := 0, slots := 0, locals := 67 } s m _ below meth c _ D (AC a) 4 (WC a cs μ) 0 [(0, .ref (a 0)), (1, .int x1), (2, .int x2), (3, .int x3)] []
  refine g_aload_n (pc1 := 1) C d_T_pull_0 rfl rfl 0 rfl ?_
  refine get_WC_0_field (pc1 := 4) C hK kw_12 d_T_pull_1 rfl ?_
  refine g_iload_n (pc1 := 5) C d_T_pull_4 rfl rfl 1 rfl ?_
  obtain ⟨r1, hr1, hF⟩ := bnd_some hF
  refine g_callFI (pc1 := 8) (ws1 := WC a cs μ) (As := [.int x1]) (rest := []) (b := a 1) C hK 1 (frR_1 a cs μ) (c_F_hasPeg l D cs (off 1 a) (sub 1 μ) x1 r1 hr1) s_F_hasPeg kw_85 1 rfl rfl rfl ⟨Nat.le_of_ble_eq_true rfl, Nat.le_of_ble_eq_true rfl⟩ ⟨rfl, rfl⟩ d_T_pull_5 rfl rfl (Nat.le_of_ble_eq_true rfl) ?_
  refine g_if_eq (pc1 := 11) C 19 d_T_pull_8 rfl (by decide) (fun c1 => ?_) (fun c1 => ?_)
  · replace hF := ite_t hF c1
    exact g_sub [0] rfl (p_T_pull_19 C hK hr hlk  μ hF)
  · replace hF := ite_f hF c1
    refine g_iload_n (pc1 := 12) C d_T_pull_11 rfl rfl 2 rfl ?_
    refine g_iload_n (pc1 := 13) C d_T_pull_12 rfl rfl 3 rfl ?_
    obtain ⟨r2, hr2, hF⟩ := bnd_some hF
    refine g_callSI (pc1 := 16) (As := [.int x2, .int x3]) (rest := []) C 2 (c_T_isGust l x2 x3 r2 hr2) s_T_isGust kw_77 rfl ⟨Nat.le_of_ble_eq_true rfl, Nat.le_of_ble_eq_true rfl⟩ ⟨rfl, rfl⟩ d_T_pull_13 rfl rfl (Nat.le_of_ble_eq_true rfl) ?_
    refine g_if_ne (pc1 := 19) C 26 d_T_pull_16 rfl (by decide) (fun c1 => ?_) (fun c1 => ?_)
    · replace hF := ite_f hF c1
      refine g_aload_n (pc1 := 27) C d_T_pull_26 rfl rfl 0 rfl ?_
      obtain ⟨m3, hm3, hF⟩ := bnd_some hF
      refine g_callVR (pc1 := 30) (ws1 := WC a cs m3) (As := []) (rest := []) (b := a 0) C hK 0 (c_T_asItIs l D cs a μ  m3 hm3) s_T_asItIs kw_81 0 rfl rfl rfl ⟨Nat.le_of_ble_eq_true rfl, Nat.le_of_ble_eq_true rfl⟩ ⟨rfl, rfl⟩ d_T_pull_27 rfl rfl (Nat.le_of_ble_eq_true rfl) ?_
      refine g_iload_n (pc1 := 31) C d_T_pull_30 rfl rfl 1 rfl ?_
      refine g_iload_n (pc1 := 32) C d_T_pull_31 rfl rfl 2 rfl ?_
      refine g_iload_n (pc1 := 33) C d_T_pull_32 rfl rfl 3 rfl ?_
      obtain ⟨r4, hr4, hF⟩ := bnd_some hF
      refine g_callVI (pc1 := 36) (ws1 := WC a cs m3) (As := [.int x1, .int x2, .int x3]) (rest := []) (b := a 7) C hK 3 (c_G_pullOn l D cs a m3 x1 x2 x3 r4 hr4) s_G_pullOn kw_93 7 rfl rfl rfl ⟨Nat.le_of_ble_eq_true rfl, Nat.le_of_ble_eq_true rfl⟩ ⟨rfl, rfl⟩ d_T_pull_33 rfl rfl (Nat.le_of_ble_eq_true rfl) ?_
      exact g_iret C hr hlk d_T_pull_36 (fst_of hF) (congrArg (WC a cs) (snd_of hF))
    · replace hF := ite_t hF c1
      exact g_sub [0] rfl (p_T_pull_19 C hK hr hlk  μ hF)
-- TentPegs.first(III)I
set_option maxHeartbeats 4000000 in
set_option maxRecDepth 100000 in
theorem p_T_first_13 {p : Program} {l : Launch} {e : Env} {s : State} {m : MethodId} {args : Array Value} {below : List Frame} {meth : Method} {c : Code} {D : va_G} {cs : Nat → ClassId} {a : Nat → Nat} {r : Int32} {μ1 : Mem} (C : Cx p s m args c b_T_first 4 "TentPegs") (hK : va_K D classes (tys cs) s) (hr : meth.sig.returnType = (some .int)) (hlk : meth.locks = false)  (μ : Mem)  (hF : F_T_first_13  μ = some (r, μ1)) : G p l e { frames := 6, cells := 0, slots := 0, locals := 135 } s m args below meth c (MQ below (Qi (AC a) D (WC a cs μ1) r) args s 0 0 (AC a)) D (AC a) 4 (WC a cs μ) 13 [(0, .ref (a 0))] [] := by
  unfold F_T_first_13 at hF
  refine g_aload_n (pc1 := 14) C d_T_first_13 rfl rfl 0 rfl ?_
  refine g_bipush (pc1 := 16) (v := (-10 : Int32)) C d_T_first_14 rfl bp_m10 ?_
  obtain ⟨⟨r1, m1⟩, hm1, hF⟩ := bnd_some hF
  refine g_callVI (pc1 := 19) (ws1 := WC a cs m1) (As := [.int (-10 : Int32)]) (rest := []) (b := a 0) C hK 1 (c_T_bad l D cs a μ (-10 : Int32) r1 m1 hm1) s_T_bad kw_15 0 rfl rfl rfl ⟨Nat.le_of_ble_eq_true rfl, Nat.le_of_ble_eq_true rfl⟩ ⟨rfl, rfl⟩ d_T_first_16 rfl rfl (Nat.le_of_ble_eq_true rfl) ?_
  exact g_iret C hr hlk d_T_first_19 (fst_of hF) (congrArg (WC a cs) (snd_of hF))
set_option maxHeartbeats 4000000 in
set_option maxRecDepth 100000 in
theorem c_T_first (l : Launch) (D : va_G) (cs : Nat → ClassId) (a : Nat → Nat) (μ : Mem) (x1 : Int32) (x2 : Int32) (x3 : Int32) (r : Int32) (μ1 : Mem) (hF : F_T_first μ x1 x2 x3 = some (r, μ1)) : MetI l y_T_first b_T_first 4 (some .int) { frames := 6, cells := 0, slots := 0, locals := 135 } D cs (AC a) (WC a cs μ) [.ref (a 0), .int x1, .int x2, .int x3] r (WC a cs μ1) := by
  refine met_of rfl (by decide +kernel) (Nat.le_of_ble_eq_true rfl) (fun p e s m below meth c C hK hr hlk => ?_)
  unfold F_T_first at hF
  show G p l e { frames := 6, cells := 0, slots := 0, locals := 135 } s m _ below meth c _ D (AC a) 4 (WC a cs μ) 0 [(0, .ref (a 0)), (1, .int x1), (2, .int x2), (3, .int x3)] []
  refine g_iload_n (pc1 := 1) C d_T_first_0 rfl rfl 1 rfl ?_
  refine g_iload_n (pc1 := 2) C d_T_first_1 rfl rfl 2 rfl ?_
  obtain ⟨r1, hr1, hF⟩ := bnd_some hF
  refine g_callSI (pc1 := 5) (As := [.int x1, .int x2]) (rest := []) C 2 (c_T_isGust l x1 x2 r1 hr1) s_T_isGust kw_77 rfl ⟨Nat.le_of_ble_eq_true rfl, Nat.le_of_ble_eq_true rfl⟩ ⟨rfl, rfl⟩ d_T_first_2 rfl rfl (Nat.le_of_ble_eq_true rfl) ?_
  refine g_if_eq (pc1 := 8) C 13 d_T_first_5 rfl (by decide) (fun c1 => ?_) (fun c1 => ?_)
  · replace hF := ite_t hF c1
    exact g_sub [0] rfl (p_T_first_13 C hK hr hlk  μ hF)
  · replace hF := ite_f hF c1
    refine g_iload_n (pc1 := 9) C d_T_first_8 rfl rfl 3 rfl ?_
    refine g_iconst (pc1 := 10) (v := (-1 : Int32)) C d_T_first_9 rfl ic_m1 ?_
    refine g_icmp_ge (pc1 := 13) C 20 d_T_first_10 rfl (by decide) (fun c1 => ?_) (fun c1 => ?_)
    · replace hF := ite_t hF c1
      refine g_aload_n (pc1 := 21) C d_T_first_20 rfl rfl 0 rfl ?_
      obtain ⟨m2, hm2, hF⟩ := bnd_some hF
      refine g_callVR (pc1 := 24) (ws1 := WC a cs m2) (As := []) (rest := []) (b := a 0) C hK 0 (c_T_asItIs l D cs a μ  m2 hm2) s_T_asItIs kw_81 0 rfl rfl rfl ⟨Nat.le_of_ble_eq_true rfl, Nat.le_of_ble_eq_true rfl⟩ ⟨rfl, rfl⟩ d_T_first_21 rfl rfl (Nat.le_of_ble_eq_true rfl) ?_
      refine g_iload_n (pc1 := 25) C d_T_first_24 rfl rfl 1 rfl ?_
      refine g_iload_n (pc1 := 26) C d_T_first_25 rfl rfl 2 rfl ?_
      obtain ⟨m3, hm3, hF⟩ := bnd_some hF
      refine g_callVV (pc1 := 29) (ws1 := WC a cs m3) (As := [.int x1, .int x2]) (rest := []) (b := a 7) C hK 2 (c_G_blow l D cs a m2 x1 x2 m3 hm3) s_G_blow kw_82 7 rfl rfl rfl ⟨Nat.le_of_ble_eq_true rfl, Nat.le_of_ble_eq_true rfl⟩ ⟨rfl, rfl⟩ d_T_first_26 rfl rfl (Nat.le_of_ble_eq_true rfl) ?_
      refine g_iload_n (pc1 := 30) C d_T_first_29 rfl rfl 3 rfl ?_
      refine g_iconst (pc1 := 31) (v := (-1 : Int32)) C d_T_first_30 rfl ic_m1 ?_
      refine g_icmp_ne (pc1 := 34) C 42 d_T_first_31 rfl (by decide) (fun c1 => ?_) (fun c1 => ?_)
      · replace hF := ite_f hF c1
        refine g_iload_n (pc1 := 43) C d_T_first_42 rfl rfl 3 rfl ?_
        refine g_aload_n (pc1 := 44) C d_T_first_43 rfl rfl 0 rfl ?_
        refine get_WC_0_gale (pc1 := 47) C hK kw_51 d_T_first_44 rfl ?_
        refine get_WC_7_gone (pc1 := 50) C hK (v := (m3.1 7 3)) rfl kw_84 d_T_first_47 rfl ?_
        refine g_icmp_ge (pc1 := 53) C 65 d_T_first_50 rfl (by decide) (fun c1 => ?_) (fun c1 => ?_)
        · replace hF := ite_t hF c1
          refine g_bipush (pc1 := 67) (v := (-5 : Int32)) C d_T_first_65 rfl bp_m5 ?_
          exact g_iret C hr hlk d_T_first_67 (fst_of hF) (congrArg (WC a cs) (snd_of hF))
        · replace hF := ite_f hF c1
          refine g_aload_n (pc1 := 54) C d_T_first_53 rfl rfl 0 rfl ?_
          refine get_WC_0_gale (pc1 := 57) C hK kw_51 d_T_first_54 rfl ?_
          refine get_WC_7_went (pc1 := 60) C hK kw_94 d_T_first_57 rfl ?_
          refine g_iload_n (pc1 := 61) C d_T_first_60 rfl rfl 3 rfl ?_
          have hg := gd_some hF
          replace hF := hg.2
          refine g_iald (pc1 := 62) C hK 9 (f := (m3.1 9)) rfl hg.1 d_T_first_61 rfl ?_
          refine g_goto C 67 d_T_first_62 (by decide) ?_
          exact g_iret C hr hlk d_T_first_67 (fst_of hF) (congrArg (WC a cs) (snd_of hF))
      · replace hF := ite_t hF c1
        refine g_aload_n (pc1 := 35) C d_T_first_34 rfl rfl 0 rfl ?_
        refine get_WC_0_gale (pc1 := 38) C hK kw_51 d_T_first_35 rfl ?_
        refine get_WC_7_gone (pc1 := 41) C hK (v := (m3.1 7 3)) rfl kw_84 d_T_first_38 rfl ?_
        exact g_iret C hr hlk d_T_first_41 (fst_of hF) (congrArg (WC a cs) (snd_of hF))
    · replace hF := ite_f hF c1
      exact g_sub [0] rfl (p_T_first_13 C hK hr hlk  μ hF)
-- TentPegs.lost(III)I
set_option maxHeartbeats 4000000 in
set_option maxRecDepth 100000 in
theorem p_T_lost_19 {p : Program} {l : Launch} {e : Env} {s : State} {m : MethodId} {args : Array Value} {below : List Frame} {meth : Method} {c : Code} {D : va_G} {cs : Nat → ClassId} {a : Nat → Nat} {r : Int32} {μ1 : Mem} (C : Cx p s m args c b_T_lost 4 "TentPegs") (hK : va_K D classes (tys cs) s) (hr : meth.sig.returnType = (some .int)) (hlk : meth.locks = false)  (μ : Mem)  (hF : F_T_lost_19  μ = some (r, μ1)) : G p l e { frames := 6, cells := 0, slots := 0, locals := 135 } s m args below meth c (MQ below (Qi (AC a) D (WC a cs μ1) r) args s 0 0 (AC a)) D (AC a) 4 (WC a cs μ) 19 [(0, .ref (a 0))] [] := by
  unfold F_T_lost_19 at hF
  refine g_aload_n (pc1 := 20) C d_T_lost_19 rfl rfl 0 rfl ?_
  refine g_bipush (pc1 := 22) (v := (-2 : Int32)) C d_T_lost_20 rfl bp_m2 ?_
  obtain ⟨⟨r1, m1⟩, hm1, hF⟩ := bnd_some hF
  refine g_callVI (pc1 := 25) (ws1 := WC a cs m1) (As := [.int (-2 : Int32)]) (rest := []) (b := a 0) C hK 1 (c_T_bad l D cs a μ (-2 : Int32) r1 m1 hm1) s_T_bad kw_15 0 rfl rfl rfl ⟨Nat.le_of_ble_eq_true rfl, Nat.le_of_ble_eq_true rfl⟩ ⟨rfl, rfl⟩ d_T_lost_22 rfl rfl (Nat.le_of_ble_eq_true rfl) ?_
  exact g_iret C hr hlk d_T_lost_25 (fst_of hF) (congrArg (WC a cs) (snd_of hF))
set_option maxHeartbeats 4000000 in
set_option maxRecDepth 100000 in
theorem c_T_lost (l : Launch) (D : va_G) (cs : Nat → ClassId) (a : Nat → Nat) (μ : Mem) (x1 : Int32) (x2 : Int32) (x3 : Int32) (r : Int32) (μ1 : Mem) (hF : F_T_lost μ x1 x2 x3 = some (r, μ1)) : MetI l y_T_lost b_T_lost 4 (some .int) { frames := 6, cells := 0, slots := 0, locals := 135 } D cs (AC a) (WC a cs μ) [.ref (a 0), .int x1, .int x2, .int x3] r (WC a cs μ1) := by
  refine met_of rfl (by decide +kernel) (Nat.le_of_ble_eq_true rfl) (fun p e s m below meth c C hK hr hlk => ?_)
  unfold F_T_lost at hF
  show G p l e { frames := 6, cells := 0, slots := 0, locals := 135 } s m _ below meth c _ D (AC a) 4 (WC a cs μ) 0 [(0, .ref (a 0)), (1, .int x1), (2, .int x2), (3, .int x3)] []
  refine g_aload_n (pc1 := 1) C d_T_lost_0 rfl rfl 0 rfl ?_
  refine get_WC_0_field (pc1 := 4) C hK kw_12 d_T_lost_1 rfl ?_
  refine g_iload_n (pc1 := 5) C d_T_lost_4 rfl rfl 1 rfl ?_
  obtain ⟨r1, hr1, hF⟩ := bnd_some hF
  refine g_callFI (pc1 := 8) (ws1 := WC a cs μ) (As := [.int x1]) (rest := []) (b := a 1) C hK 1 (frR_1 a cs μ) (c_F_hasPeg l D cs (off 1 a) (sub 1 μ) x1 r1 hr1) s_F_hasPeg kw_85 1 rfl rfl rfl ⟨Nat.le_of_ble_eq_true rfl, Nat.le_of_ble_eq_true rfl⟩ ⟨rfl, rfl⟩ d_T_lost_5 rfl rfl (Nat.le_of_ble_eq_true rfl) ?_
  refine g_if_eq (pc1 := 11) C 19 d_T_lost_8 rfl (by decide) (fun c1 => ?_) (fun c1 => ?_)
  · replace hF := ite_t hF c1
    exact g_sub [0] rfl (p_T_lost_19 C hK hr hlk  μ hF)
  · replace hF := ite_f hF c1
    refine g_iload_n (pc1 := 12) C d_T_lost_11 rfl rfl 2 rfl ?_
    refine g_iload_n (pc1 := 13) C d_T_lost_12 rfl rfl 3 rfl ?_
    obtain ⟨r2, hr2, hF⟩ := bnd_some hF
    refine g_callSI (pc1 := 16) (As := [.int x2, .int x3]) (rest := []) C 2 (c_T_isGust l x2 x3 r2 hr2) s_T_isGust kw_77 rfl ⟨Nat.le_of_ble_eq_true rfl, Nat.le_of_ble_eq_true rfl⟩ ⟨rfl, rfl⟩ d_T_lost_13 rfl rfl (Nat.le_of_ble_eq_true rfl) ?_
    refine g_if_ne (pc1 := 19) C 26 d_T_lost_16 rfl (by decide) (fun c1 => ?_) (fun c1 => ?_)
    · replace hF := ite_f hF c1
      refine g_aload_n (pc1 := 27) C d_T_lost_26 rfl rfl 0 rfl ?_
      obtain ⟨m3, hm3, hF⟩ := bnd_some hF
      refine g_callVR (pc1 := 30) (ws1 := WC a cs m3) (As := []) (rest := []) (b := a 0) C hK 0 (c_T_asItIs l D cs a μ  m3 hm3) s_T_asItIs kw_81 0 rfl rfl rfl ⟨Nat.le_of_ble_eq_true rfl, Nat.le_of_ble_eq_true rfl⟩ ⟨rfl, rfl⟩ d_T_lost_27 rfl rfl (Nat.le_of_ble_eq_true rfl) ?_
      refine g_pop (pc1 := 31) C d_T_lost_30 rfl rfl ?_
      refine g_aload_n (pc1 := 32) C d_T_lost_31 rfl rfl 0 rfl ?_
      refine get_WC_0_gale (pc1 := 35) C hK kw_51 d_T_lost_32 rfl ?_
      refine g_aload_n (pc1 := 36) C d_T_lost_35 rfl rfl 0 rfl ?_
      refine get_WC_0_gale (pc1 := 39) C hK kw_51 d_T_lost_36 rfl ?_
      refine get_WC_7_standing (pc1 := 42) C hK (v := (m3.1 7 4)) rfl kw_83 d_T_lost_39 rfl ?_
      refine g_iload_n (pc1 := 43) C d_T_lost_42 rfl rfl 1 rfl ?_
      refine g_iconst (pc1 := 44) (v := (0 : Int32)) C d_T_lost_43 rfl ic_0 ?_
      obtain ⟨r4, hr4, hF⟩ := bnd_some hF
      refine g_callSI (pc1 := 47) (As := [.int (m3.1 7 4), .int x1, .int (0 : Int32)]) (rest := [.ref (a 7)]) C 3 (c_T_with l (m3.1 7 4) x1 (0 : Int32) r4 hr4) s_T_with kw_87 rfl ⟨Nat.le_of_ble_eq_true rfl, Nat.le_of_ble_eq_true rfl⟩ ⟨rfl, rfl⟩ d_T_lost_44 rfl rfl (Nat.le_of_ble_eq_true rfl) ?_
      refine put_WC_7_standing (pc1 := 50) C hK kw_83 d_T_lost_47 rfl ?_
      refine g_aload_n (pc1 := 51) C d_T_lost_50 rfl rfl 0 rfl ?_
      refine get_WC_0_gale (pc1 := 54) C hK kw_51 d_T_lost_51 rfl ?_
      refine g_iload_n (pc1 := 55) C d_T_lost_54 rfl rfl 2 rfl ?_
      refine g_iload_n (pc1 := 56) C d_T_lost_55 rfl rfl 3 rfl ?_
      obtain ⟨m5, hm5, hF⟩ := bnd_some hF
      refine g_callVV (pc1 := 59) (ws1 := WC a cs m5) (As := [.int x2, .int x3]) (rest := []) (b := a 7) C hK 2 (c_G_blow l D cs a (stI m3 7 4 r4) x2 x3 m5 hm5) s_G_blow kw_82 7 rfl rfl rfl ⟨Nat.le_of_ble_eq_true rfl, Nat.le_of_ble_eq_true rfl⟩ ⟨rfl, rfl⟩ d_T_lost_56 rfl rfl (Nat.le_of_ble_eq_true rfl) ?_
      refine g_aload_n (pc1 := 60) C d_T_lost_59 rfl rfl 0 rfl ?_
      refine get_WC_0_gale (pc1 := 63) C hK kw_51 d_T_lost_60 rfl ?_
      refine get_WC_7_standing (pc1 := 66) C hK (v := (m5.1 7 4)) rfl kw_83 d_T_lost_63 rfl ?_
      refine g_if_ne (pc1 := 69) C 73 d_T_lost_66 rfl (by decide) (fun c1 => ?_) (fun c1 => ?_)
      · replace hF := ite_f hF c1
        refine g_iconst (pc1 := 74) (v := (0 : Int32)) C d_T_lost_73 rfl ic_0 ?_
        exact g_iret C hr hlk d_T_lost_74 (fst_of hF) (congrArg (WC a cs) (snd_of hF))
      · replace hF := ite_t hF c1
        refine g_iconst (pc1 := 70) (v := (1 : Int32)) C d_T_lost_69 rfl ic_1 ?_
        refine g_goto C 74 d_T_lost_70 (by decide) ?_
        exact g_iret C hr hlk d_T_lost_74 (fst_of hF) (congrArg (WC a cs) (snd_of hF))
    · replace hF := ite_t hF c1
      exact g_sub [0] rfl (p_T_lost_19 C hK hr hlk  μ hF)
-- TentPegs$Gale.borneBy(I)I
set_option maxHeartbeats 4000000 in
set_option maxRecDepth 100000 in
theorem p_G_borneBy_65 {p : Program} {l : Launch} {e : Env} {s : State} {m : MethodId} {args : Array Value} {below : List Frame} {meth : Method} {c : Code} {D : va_G} {cs : Nat → ClassId} {a : Nat → Nat} {μ : Mem} {r : Int32} (C : Cx p s m args c b_G_borneBy 5 "TentPegs$Gale") (hK : va_K D classes (tys cs) s) (hr : meth.sig.returnType = (some .int)) (hlk : meth.locks = false)  : ∀ (x1 : Int32) (x2 : Int32) (x3 : Int32), F_G_borneBy_65  μ x1 x2 x3 = some r → G p l e { frames := 4, cells := 0, slots := 0, locals := 87 } s m args below meth c (MQ below (Qi (AC a) D (WC a cs μ) r) args s 0 0 (AC a)) D (AC a) 5 (WC a cs μ) 65 [(0, .ref (a 7)), (1, .int x1), (2, .int x2), (3, .int x3)] [] := by
  refine iter_ind (fun (K65 : Mem → Int32 → Int32 → Int32 → Option Int32) => ∀ (x1 : Int32) (x2 : Int32) (x3 : Int32), K65 μ x1 x2 x3 = some r → G p l e { frames := 4, cells := 0, slots := 0, locals := 87 } s m args below meth c (MQ below (Qi (AC a) D (WC a cs μ) r) args s 0 0 (AC a)) D (AC a) 5 (WC a cs μ) 65 [(0, .ref (a 7)), (1, .int x1), (2, .int x2), (3, .int x3)] []) ?_ ?_ NF
  · intro x1 x2 x3 hF
    exact none_no hF
  · intro K65 hK65 x1 x2 x3 hF
    unfold S_G_borneBy_65 at hF
    refine g_iload_n (pc1 := 66) C d_G_borneBy_65 rfl rfl 3 rfl ?_
    refine g_bipush (pc1 := 68) (v := (60 : Int32)) C d_G_borneBy_66 rfl bp_60 ?_
    refine g_icmp_ge (pc1 := 71) C 89 d_G_borneBy_68 rfl (by decide) (fun c1 => ?_) (fun c1 => ?_)
    · replace hF := ite_t hF c1
      refine g_iload_n (pc1 := 90) C d_G_borneBy_89 rfl rfl 3 rfl ?_
      exact g_iret C hr hlk d_G_borneBy_90 (Option.some.inj hF) rfl
    · replace hF := ite_f hF c1
      refine g_aload_n (pc1 := 72) C d_G_borneBy_71 rfl rfl 0 rfl ?_
      refine g_iload_n (pc1 := 73) C d_G_borneBy_72 rfl rfl 1 rfl ?_
      refine g_iload_n (pc1 := 74) C d_G_borneBy_73 rfl rfl 3 rfl ?_
      refine g_iconst (pc1 := 75) (v := (1 : Int32)) C d_G_borneBy_74 rfl ic_1 ?_
      refine g_iadd (pc1 := 76) C d_G_borneBy_75 rfl ?_
      obtain ⟨r1, hr1, hF⟩ := bnd_some hF
      refine g_callVI (pc1 := 79) (ws1 := WC a cs μ) (As := [.int x1, .int (x3 + (1 : Int32))]) (rest := []) (b := a 7) C hK 2 (c_G_behindWalls l D cs a μ x1 (x3 + (1 : Int32)) r1 hr1) s_G_behindWalls kw_57 7 rfl rfl rfl ⟨Nat.le_of_ble_eq_true rfl, Nat.le_of_ble_eq_true rfl⟩ ⟨rfl, rfl⟩ d_G_borneBy_76 rfl rfl (Nat.le_of_ble_eq_true rfl) ?_
      refine g_iload_n (pc1 := 80) C d_G_borneBy_79 rfl rfl 2 rfl ?_
      refine g_icmp_gt (pc1 := 83) C 89 d_G_borneBy_80 rfl (by decide) (fun c1 => ?_) (fun c1 => ?_)
      · replace hF := ite_t hF c1
        refine g_iload_n (pc1 := 90) C d_G_borneBy_89 rfl rfl 3 rfl ?_
        exact g_iret C hr hlk d_G_borneBy_90 (Option.some.inj hF) rfl
      · replace hF := ite_f hF c1
        refine g_iinc (pc1 := 86) (v := (x3 + (1 : Int32))) (L1 := [(3, .int (x3 + (1 : Int32))), (0, .ref (a 7)), (1, .int x1), (2, .int x2)]) C d_G_borneBy_83 rfl 3 rfl (by rw [ic_1]) (by decide) rfl ?_
        refine g_goto C 65 d_G_borneBy_86 (by decide) ?_
        exact g_sub [1, 2, 3, 0] rfl (hK65 x1 x2 (x3 + (1 : Int32)) hF)
set_option maxHeartbeats 4000000 in
set_option maxRecDepth 100000 in
theorem p_G_borneBy_5 {p : Program} {l : Launch} {e : Env} {s : State} {m : MethodId} {args : Array Value} {below : List Frame} {meth : Method} {c : Code} {D : va_G} {cs : Nat → ClassId} {a : Nat → Nat} {μ : Mem} {r : Int32} (C : Cx p s m args c b_G_borneBy 5 "TentPegs$Gale") (hK : va_K D classes (tys cs) s) (hr : meth.sig.returnType = (some .int)) (hlk : meth.locks = false)  : ∀ (x1 : Int32) (x2 : Int32) (x3 : Int32), F_G_borneBy_5  μ x1 x2 x3 = some r → G p l e { frames := 4, cells := 0, slots := 0, locals := 87 } s m args below meth c (MQ below (Qi (AC a) D (WC a cs μ) r) args s 0 0 (AC a)) D (AC a) 5 (WC a cs μ) 5 [(0, .ref (a 7)), (1, .int x1), (2, .int x2), (3, .int x3)] [] := by
  refine iter_ind (fun (K5 : Mem → Int32 → Int32 → Int32 → Option Int32) => ∀ (x1 : Int32) (x2 : Int32) (x3 : Int32), K5 μ x1 x2 x3 = some r → G p l e { frames := 4, cells := 0, slots := 0, locals := 87 } s m args below meth c (MQ below (Qi (AC a) D (WC a cs μ) r) args s 0 0 (AC a)) D (AC a) 5 (WC a cs μ) 5 [(0, .ref (a 7)), (1, .int x1), (2, .int x2), (3, .int x3)] []) ?_ ?_ NF
  · intro x1 x2 x3 hF
    exact none_no hF
  · intro K5 hK5 x1 x2 x3 hF
    unfold S_G_borneBy_5 at hF
    refine g_iload_n (pc1 := 6) C d_G_borneBy_5 rfl rfl 3 rfl ?_
    refine g_aload_n (pc1 := 7) C d_G_borneBy_6 rfl rfl 0 rfl ?_
    refine get_WC_7_field (pc1 := 10) C hK kw_44 d_G_borneBy_7 rfl ?_
    refine get_WC_1_pegs (pc1 := 13) C hK (v := (μ.1 1 0)) rfl kw_53 d_G_borneBy_10 rfl ?_
    refine g_icmp_ge (pc1 := 16) C 63 d_G_borneBy_13 rfl (by decide) (fun c1 => ?_) (fun c1 => ?_)
    · replace hF := ite_t hF c1
      refine g_iconst (pc1 := 64) (v := (0 : Int32)) C d_G_borneBy_63 rfl ic_0 ?_
      refine g_istore_n (pc1 := 65) (L1 := [(3, .int (0 : Int32)), (0, .ref (a 7)), (1, .int x1), (2, .int x2)]) C d_G_borneBy_64 rfl rfl (by decide) rfl ?_
      exact g_sub [1, 2, 3, 0] rfl (p_G_borneBy_65 C hK hr hlk  x1 x2 (0 : Int32) hF)
    · replace hF := ite_f hF c1
      refine g_aload_n (pc1 := 17) C d_G_borneBy_16 rfl rfl 0 rfl ?_
      refine g_iload_n (pc1 := 18) C d_G_borneBy_17 rfl rfl 3 rfl ?_
      refine g_iload_n (pc1 := 19) C d_G_borneBy_18 rfl rfl 1 rfl ?_
      obtain ⟨r1, hr1, hF⟩ := bnd_some hF
      refine g_callVI (pc1 := 22) (ws1 := WC a cs μ) (As := [.int x3, .int x1]) (rest := []) (b := a 7) C hK 2 (c_G_shareOf l D cs a μ x3 x1 r1 hr1) s_G_shareOf kw_58 7 rfl rfl rfl ⟨Nat.le_of_ble_eq_true rfl, Nat.le_of_ble_eq_true rfl⟩ ⟨rfl, rfl⟩ d_G_borneBy_19 rfl rfl (Nat.le_of_ble_eq_true rfl) ?_
      refine g_istore (pc1 := 24) (L1 := [(4, .int r1), (0, .ref (a 7)), (1, .int x1), (2, .int x2), (3, .int x3)]) C d_G_borneBy_22 rfl (by decide) rfl ?_
      refine g_aload_n (pc1 := 25) C d_G_borneBy_24 rfl rfl 1 rfl ?_
      refine get_WC_7_standing (pc1 := 28) C hK (v := (μ.1 7 4)) rfl kw_46 d_G_borneBy_25 rfl ?_
      refine g_iload_n (pc1 := 29) C d_G_borneBy_28 rfl rfl 4 rfl ?_
      obtain ⟨r2, hr2, hF⟩ := bnd_some hF
      refine g_callNI (pc1 := 32) (As := [.int (μ.1 7 4), .int x3]) (rest := []) C 2 (c_T_has l (μ.1 7 4) x3 r2 hr2) s_T_has 8 rfl rfl ⟨Nat.le_of_ble_eq_true rfl, Nat.le_of_ble_eq_true rfl⟩ ⟨rfl, rfl⟩ d_G_borneBy_29 rfl rfl (Nat.le_of_ble_eq_true rfl) ?_
      refine g_if_eq (pc1 := 35) C 57 d_G_borneBy_32 rfl (by decide) (fun c1 => ?_) (fun c1 => ?_)
      · replace hF := ite_t hF c1
        refine g_iinc (pc1 := 60) (v := (x3 + (1 : Int32))) (L1 := [(3, .int (x3 + (1 : Int32))), (4, .int r1), (0, .ref (a 7)), (1, .int x1), (2, .int x2)]) C d_G_borneBy_57 rfl 4 rfl (by rw [ic_1]) (by decide) rfl ?_
        refine g_goto C 5 d_G_borneBy_60 (by decide) ?_
        exact g_sub [2, 3, 4, 0] rfl (hK5 x1 x2 (x3 + (1 : Int32)) hF)
      · replace hF := ite_f hF c1
        refine g_iload (pc1 := 37) C d_G_borneBy_35 rfl 0 rfl ?_
        refine g_if_le (pc1 := 40) C 57 d_G_borneBy_37 rfl (by decide) (fun c1 => ?_) (fun c1 => ?_)
        · replace hF := ite_t hF c1
          refine g_iinc (pc1 := 60) (v := (x3 + (1 : Int32))) (L1 := [(3, .int (x3 + (1 : Int32))), (4, .int r1), (0, .ref (a 7)), (1, .int x1), (2, .int x2)]) C d_G_borneBy_57 rfl 4 rfl (by rw [ic_1]) (by decide) rfl ?_
          refine g_goto C 5 d_G_borneBy_60 (by decide) ?_
          exact g_sub [2, 3, 4, 0] rfl (hK5 x1 x2 (x3 + (1 : Int32)) hF)
        · replace hF := ite_f hF c1
          refine g_iload_n (pc1 := 41) C d_G_borneBy_40 rfl rfl 3 rfl ?_
          refine g_iconst (pc1 := 42) (v := (4 : Int32)) C d_G_borneBy_41 rfl ic_4 ?_
          refine g_aload_n (pc1 := 43) C d_G_borneBy_42 rfl rfl 1 rfl ?_
          refine g_iload_n (pc1 := 44) C d_G_borneBy_43 rfl rfl 4 rfl ?_
          obtain ⟨r3, hr3, hF⟩ := bnd_some hF
          refine g_callVI (pc1 := 47) (ws1 := WC a cs μ) (As := [.int x3]) (rest := [.int (4 : Int32), .int x2]) (b := a 7) C hK 1 (c_G_holds l D cs a μ x3 r3 hr3) s_G_holds kw_69 7 rfl rfl rfl ⟨Nat.le_of_ble_eq_true rfl, Nat.le_of_ble_eq_true rfl⟩ ⟨rfl, rfl⟩ d_G_borneBy_44 rfl rfl (Nat.le_of_ble_eq_true rfl) ?_
          refine g_imul (pc1 := 48) C d_G_borneBy_47 rfl ?_
          refine g_iconst (pc1 := 49) (v := (3 : Int32)) C d_G_borneBy_48 rfl ic_3 ?_
          refine g_iadd (pc1 := 50) C d_G_borneBy_49 rfl ?_
          refine g_iload (pc1 := 52) C d_G_borneBy_50 rfl 0 rfl ?_
          by_cases h0 : r1 = 0
          · exact none_no (ite_t hF h0)
          replace hF := ite_f hF h0
          refine g_idiv (pc1 := 53) C d_G_borneBy_52 rfl h0 ?_
          refine g_mmin (pc1 := 56) (rest := []) C kw_56 (Nat.le_of_ble_eq_true rfl) (Nat.le_of_ble_eq_true rfl) d_G_borneBy_53 rfl ?_
          refine g_istore_n (pc1 := 57) (L1 := [(2, .int (if ((((4 : Int32) * r3) + (3 : Int32)) / r1) < x2 then ((((4 : Int32) * r3) + (3 : Int32)) / r1) else x2)), (4, .int r1), (0, .ref (a 7)), (1, .int x1), (3, .int x3)]) C d_G_borneBy_56 rfl rfl (by decide) rfl ?_
          refine g_iinc (pc1 := 60) (v := (x3 + (1 : Int32))) (L1 := [(3, .int (x3 + (1 : Int32))), (2, .int (if ((((4 : Int32) * r3) + (3 : Int32)) / r1) < x2 then ((((4 : Int32) * r3) + (3 : Int32)) / r1) else x2)), (4, .int r1), (0, .ref (a 7)), (1, .int x1)]) C d_G_borneBy_57 rfl 4 rfl (by rw [ic_1]) (by decide) rfl ?_
          refine g_goto C 5 d_G_borneBy_60 (by decide) ?_
          exact g_sub [3, 4, 1, 0] rfl (hK5 x1 (if ((((4 : Int32) * r3) + (3 : Int32)) / r1) < x2 then ((((4 : Int32) * r3) + (3 : Int32)) / r1) else x2) (x3 + (1 : Int32)) hF)
set_option maxHeartbeats 4000000 in
set_option maxRecDepth 100000 in
theorem c_G_borneBy (l : Launch) (D : va_G) (cs : Nat → ClassId) (a : Nat → Nat) (μ : Mem) (x1 : Int32) (r : Int32) (hF : F_G_borneBy μ x1 = some r) : MetI l y_G_borneBy b_G_borneBy 5 (some .int) { frames := 4, cells := 0, slots := 0, locals := 87 } D cs (AC a) (WC a cs μ) [.ref (a 7), .int x1] r (WC a cs μ) := by
  refine met_of rfl (by decide +kernel) (Nat.le_of_ble_eq_true rfl) (fun p e s m below meth c C hK hr hlk => ?_)
  unfold F_G_borneBy at hF
  show G p l e { frames := 4, cells := 0, slots := 0, locals := 87 } s m _ below meth c _ D (AC a) 5 (WC a cs μ) 0 [(0, .ref (a 7)), (1, .int x1)] []
  refine g_bipush (pc1 := 2) (v := (120 : Int32)) C d_G_borneBy_0 rfl bp_120 ?_
  refine g_istore_n (pc1 := 3) (L1 := [(2, .int (120 : Int32)), (0, .ref (a 7)), (1, .int x1)]) C d_G_borneBy_2 rfl rfl (by decide) rfl ?_
  refine g_iconst (pc1 := 4) (v := (0 : Int32)) C d_G_borneBy_3 rfl ic_0 ?_
  refine g_istore_n (pc1 := 5) (L1 := [(3, .int (0 : Int32)), (2, .int (120 : Int32)), (0, .ref (a 7)), (1, .int x1)]) C d_G_borneBy_4 rfl rfl (by decide) rfl ?_
  exact g_sub [2, 3, 1, 0] rfl (p_G_borneBy_5 C hK hr hlk  x1 (120 : Int32) (0 : Int32) hF)
-- TentPegs$Gale.leastBorne()I
set_option maxHeartbeats 4000000 in
set_option maxRecDepth 100000 in
theorem p_G_leastBorne_5 {p : Program} {l : Launch} {e : Env} {s : State} {m : MethodId} {args : Array Value} {below : List Frame} {meth : Method} {c : Code} {D : va_G} {cs : Nat → ClassId} {a : Nat → Nat} {μ : Mem} {r : Int32} (C : Cx p s m args c b_G_leastBorne 3 "TentPegs$Gale") (hK : va_K D classes (tys cs) s) (hr : meth.sig.returnType = (some .int)) (hlk : meth.locks = false)  : ∀ (x1 : Int32) (x2 : Int32), F_G_leastBorne_5  μ x1 x2 = some r → G p l e { frames := 5, cells := 0, slots := 0, locals := 111 } s m args below meth c (MQ below (Qi (AC a) D (WC a cs μ) r) args s 0 0 (AC a)) D (AC a) 3 (WC a cs μ) 5 [(0, .ref (a 7)), (1, .int x1), (2, .int x2)] [] := by
  refine iter_ind (fun (K5 : Mem → Int32 → Int32 → Option Int32) => ∀ (x1 : Int32) (x2 : Int32), K5 μ x1 x2 = some r → G p l e { frames := 5, cells := 0, slots := 0, locals := 111 } s m args below meth c (MQ below (Qi (AC a) D (WC a cs μ) r) args s 0 0 (AC a)) D (AC a) 3 (WC a cs μ) 5 [(0, .ref (a 7)), (1, .int x1), (2, .int x2)] []) ?_ ?_ NF
  · intro x1 x2 hF
    exact none_no hF
  · intro K5 hK5 x1 x2 hF
    unfold S_G_leastBorne_5 at hF
    refine g_iload_n (pc1 := 6) C d_G_leastBorne_5 rfl rfl 2 rfl ?_
    refine g_bipush (pc1 := 8) (v := (8 : Int32)) C d_G_leastBorne_6 rfl bp_8 ?_
    refine g_icmp_ge (pc1 := 11) C 27 d_G_leastBorne_8 rfl (by decide) (fun c1 => ?_) (fun c1 => ?_)
    · replace hF := ite_t hF c1
      refine g_iload_n (pc1 := 28) C d_G_leastBorne_27 rfl rfl 1 rfl ?_
      exact g_iret C hr hlk d_G_leastBorne_28 (Option.some.inj hF) rfl
    · replace hF := ite_f hF c1
      refine g_iload_n (pc1 := 12) C d_G_leastBorne_11 rfl rfl 1 rfl ?_
      refine g_aload_n (pc1 := 13) C d_G_leastBorne_12 rfl rfl 0 rfl ?_
      refine g_iload_n (pc1 := 14) C d_G_leastBorne_13 rfl rfl 2 rfl ?_
      obtain ⟨r1, hr1, hF⟩ := bnd_some hF
      refine g_callVI (pc1 := 17) (ws1 := WC a cs μ) (As := [.int x2]) (rest := [.int x1]) (b := a 7) C hK 1 (c_G_borneBy l D cs a μ x2 r1 hr1) s_G_borneBy kw_95 7 rfl rfl rfl ⟨Nat.le_of_ble_eq_true rfl, Nat.le_of_ble_eq_true rfl⟩ ⟨rfl, rfl⟩ d_G_leastBorne_14 rfl rfl (Nat.le_of_ble_eq_true rfl) ?_
      refine g_mmin (pc1 := 20) (rest := []) C kw_56 (Nat.le_of_ble_eq_true rfl) (Nat.le_of_ble_eq_true rfl) d_G_leastBorne_17 rfl ?_
      refine g_istore_n (pc1 := 21) (L1 := [(1, .int (if r1 < x1 then r1 else x1)), (0, .ref (a 7)), (2, .int x2)]) C d_G_leastBorne_20 rfl rfl (by decide) rfl ?_
      refine g_iinc (pc1 := 24) (v := (x2 + (1 : Int32))) (L1 := [(2, .int (x2 + (1 : Int32))), (1, .int (if r1 < x1 then r1 else x1)), (0, .ref (a 7))]) C d_G_leastBorne_21 rfl 2 rfl (by rw [ic_1]) (by decide) rfl ?_
      refine g_goto C 5 d_G_leastBorne_24 (by decide) ?_
      exact g_sub [2, 1, 0] rfl (hK5 (if r1 < x1 then r1 else x1) (x2 + (1 : Int32)) hF)
set_option maxHeartbeats 4000000 in
set_option maxRecDepth 100000 in
theorem c_G_leastBorne (l : Launch) (D : va_G) (cs : Nat → ClassId) (a : Nat → Nat) (μ : Mem)  (r : Int32) (hF : F_G_leastBorne μ = some r) : MetI l y_G_leastBorne b_G_leastBorne 3 (some .int) { frames := 5, cells := 0, slots := 0, locals := 111 } D cs (AC a) (WC a cs μ) [.ref (a 7)] r (WC a cs μ) := by
  refine met_of rfl (by decide +kernel) (Nat.le_of_ble_eq_true rfl) (fun p e s m below meth c C hK hr hlk => ?_)
  unfold F_G_leastBorne at hF
  show G p l e { frames := 5, cells := 0, slots := 0, locals := 111 } s m _ below meth c _ D (AC a) 3 (WC a cs μ) 0 [(0, .ref (a 7))] []
  refine g_bipush (pc1 := 2) (v := (60 : Int32)) C d_G_leastBorne_0 rfl bp_60 ?_
  refine g_istore_n (pc1 := 3) (L1 := [(1, .int (60 : Int32)), (0, .ref (a 7))]) C d_G_leastBorne_2 rfl rfl (by decide) rfl ?_
  refine g_iconst (pc1 := 4) (v := (0 : Int32)) C d_G_leastBorne_3 rfl ic_0 ?_
  refine g_istore_n (pc1 := 5) (L1 := [(2, .int (0 : Int32)), (1, .int (60 : Int32)), (0, .ref (a 7))]) C d_G_leastBorne_4 rfl rfl (by decide) rfl ?_
  exact g_sub [2, 1, 0] rfl (p_G_leastBorne_5 C hK hr hlk  (60 : Int32) (0 : Int32) hF)
-- TentPegs$Gale.weakestWay()I
set_option maxHeartbeats 4000000 in
set_option maxRecDepth 100000 in
theorem p_G_weakestWay_7 {p : Program} {l : Launch} {e : Env} {s : State} {m : MethodId} {args : Array Value} {below : List Frame} {meth : Method} {c : Code} {D : va_G} {cs : Nat → ClassId} {a : Nat → Nat} {μ : Mem} {r : Int32} (C : Cx p s m args c b_G_weakestWay 3 "TentPegs$Gale") (hK : va_K D classes (tys cs) s) (hr : meth.sig.returnType = (some .int)) (hlk : meth.locks = false)  : ∀ (x1 : Int32) (x2 : Int32), F_G_weakestWay_7  μ x1 x2 = some r → G p l e { frames := 6, cells := 0, slots := 0, locals := 133 } s m args below meth c (MQ below (Qi (AC a) D (WC a cs μ) r) args s 0 0 (AC a)) D (AC a) 3 (WC a cs μ) 7 [(0, .ref (a 7)), (1, .int x1), (2, .int x2)] [] := by
  refine iter_ind (fun (K7 : Mem → Int32 → Int32 → Option Int32) => ∀ (x1 : Int32) (x2 : Int32), K7 μ x1 x2 = some r → G p l e { frames := 6, cells := 0, slots := 0, locals := 133 } s m args below meth c (MQ below (Qi (AC a) D (WC a cs μ) r) args s 0 0 (AC a)) D (AC a) 3 (WC a cs μ) 7 [(0, .ref (a 7)), (1, .int x1), (2, .int x2)] []) ?_ ?_ NF
  · intro x1 x2 hF
    exact none_no hF
  · intro K7 hK7 x1 x2 hF
    unfold S_G_weakestWay_7 at hF
    refine g_iload_n (pc1 := 8) C d_G_weakestWay_7 rfl rfl 2 rfl ?_
    refine g_bipush (pc1 := 10) (v := (8 : Int32)) C d_G_weakestWay_8 rfl bp_8 ?_
    refine g_icmp_ge (pc1 := 13) C 30 d_G_weakestWay_10 rfl (by decide) (fun c1 => ?_) (fun c1 => ?_)
    · replace hF := ite_t hF c1
      refine g_iconst (pc1 := 31) (v := (-1 : Int32)) C d_G_weakestWay_30 rfl ic_m1 ?_
      exact g_iret C hr hlk d_G_weakestWay_31 (Option.some.inj hF) rfl
    · replace hF := ite_f hF c1
      refine g_aload_n (pc1 := 14) C d_G_weakestWay_13 rfl rfl 0 rfl ?_
      refine g_iload_n (pc1 := 15) C d_G_weakestWay_14 rfl rfl 2 rfl ?_
      obtain ⟨r1, hr1, hF⟩ := bnd_some hF
      refine g_callVI (pc1 := 18) (ws1 := WC a cs μ) (As := [.int x2]) (rest := []) (b := a 7) C hK 1 (c_G_borneBy l D cs a μ x2 r1 hr1) s_G_borneBy kw_95 7 rfl rfl rfl ⟨Nat.le_of_ble_eq_true rfl, Nat.le_of_ble_eq_true rfl⟩ ⟨rfl, rfl⟩ d_G_weakestWay_15 rfl rfl (Nat.le_of_ble_eq_true rfl) ?_
      refine g_iload_n (pc1 := 19) C d_G_weakestWay_18 rfl rfl 1 rfl ?_
      refine g_icmp_ne (pc1 := 22) C 24 d_G_weakestWay_19 rfl (by decide) (fun c1 => ?_) (fun c1 => ?_)
      · replace hF := ite_f hF c1
        refine g_iinc (pc1 := 27) (v := (x2 + (1 : Int32))) (L1 := [(2, .int (x2 + (1 : Int32))), (0, .ref (a 7)), (1, .int x1)]) C d_G_weakestWay_24 rfl 2 rfl (by rw [ic_1]) (by decide) rfl ?_
        refine g_goto C 7 d_G_weakestWay_27 (by decide) ?_
        exact g_sub [1, 2, 0] rfl (hK7 x1 (x2 + (1 : Int32)) hF)
      · replace hF := ite_t hF c1
        refine g_iload_n (pc1 := 23) C d_G_weakestWay_22 rfl rfl 2 rfl ?_
        exact g_iret C hr hlk d_G_weakestWay_23 (Option.some.inj hF) rfl
set_option maxHeartbeats 4000000 in
set_option maxRecDepth 100000 in
theorem c_G_weakestWay (l : Launch) (D : va_G) (cs : Nat → ClassId) (a : Nat → Nat) (μ : Mem)  (r : Int32) (hF : F_G_weakestWay μ = some r) : MetI l y_G_weakestWay b_G_weakestWay 3 (some .int) { frames := 6, cells := 0, slots := 0, locals := 133 } D cs (AC a) (WC a cs μ) [.ref (a 7)] r (WC a cs μ) := by
  refine met_of rfl (by decide +kernel) (Nat.le_of_ble_eq_true rfl) (fun p e s m below meth c C hK hr hlk => ?_)
  unfold F_G_weakestWay at hF
  show G p l e { frames := 6, cells := 0, slots := 0, locals := 133 } s m _ below meth c _ D (AC a) 3 (WC a cs μ) 0 [(0, .ref (a 7))] []
  refine g_aload_n (pc1 := 1) C d_G_weakestWay_0 rfl rfl 0 rfl ?_
  obtain ⟨r1, hr1, hF⟩ := bnd_some hF
  refine g_callVI (pc1 := 4) (ws1 := WC a cs μ) (As := []) (rest := []) (b := a 7) C hK 0 (c_G_leastBorne l D cs a μ  r1 hr1) s_G_leastBorne kw_96 7 rfl rfl rfl ⟨Nat.le_of_ble_eq_true rfl, Nat.le_of_ble_eq_true rfl⟩ ⟨rfl, rfl⟩ d_G_weakestWay_1 rfl rfl (Nat.le_of_ble_eq_true rfl) ?_
  refine g_istore_n (pc1 := 5) (L1 := [(1, .int r1), (0, .ref (a 7))]) C d_G_weakestWay_4 rfl rfl (by decide) rfl ?_
  refine g_iconst (pc1 := 6) (v := (0 : Int32)) C d_G_weakestWay_5 rfl ic_0 ?_
  refine g_istore_n (pc1 := 7) (L1 := [(2, .int (0 : Int32)), (1, .int r1), (0, .ref (a 7))]) C d_G_weakestWay_6 rfl rfl (by decide) rfl ?_
  exact g_sub [2, 1, 0] rfl (p_G_weakestWay_7 C hK hr hlk  r1 (0 : Int32) hF)
-- TentPegs.bears(I)I
set_option maxHeartbeats 4000000 in
set_option maxRecDepth 100000 in
theorem c_T_bears (l : Launch) (D : va_G) (cs : Nat → ClassId) (a : Nat → Nat) (μ : Mem) (x1 : Int32) (r : Int32) (μ1 : Mem) (hF : F_T_bears μ x1 = some (r, μ1)) : MetI l y_T_bears b_T_bears 2 (some .int) { frames := 7, cells := 0, slots := 0, locals := 155 } D cs (AC a) (WC a cs μ) [.ref (a 0), .int x1] r (WC a cs μ1) := by
  refine met_of rfl (by decide +kernel) (Nat.le_of_ble_eq_true rfl) (fun p e s m below meth c C hK hr hlk => ?_)
  unfold F_T_bears at hF
  show G p l e { frames := 7, cells := 0, slots := 0, locals := 155 } s m _ below meth c _ D (AC a) 2 (WC a cs μ) 0 [(0, .ref (a 0)), (1, .int x1)] []
  refine g_iload_n (pc1 := 1) C d_T_bears_0 rfl rfl 1 rfl ?_
  refine g_iconst (pc1 := 2) (v := (-1 : Int32)) C d_T_bears_1 rfl ic_m1 ?_
  refine g_icmp_ne (pc1 := 5) C 13 d_T_bears_2 rfl (by decide) (fun c1 => ?_) (fun c1 => ?_)
  · replace hF := ite_f hF c1
    refine g_iload_n (pc1 := 14) C d_T_bears_13 rfl rfl 1 rfl ?_
    obtain ⟨r1, hr1, hF⟩ := bnd_some hF
    refine g_callSI (pc1 := 17) (As := [.int x1]) (rest := []) C 1 (c_T_isWay l x1 r1 hr1) s_T_isWay kw_24 rfl ⟨Nat.le_of_ble_eq_true rfl, Nat.le_of_ble_eq_true rfl⟩ ⟨rfl, rfl⟩ d_T_bears_14 rfl rfl (Nat.le_of_ble_eq_true rfl) ?_
    refine g_if_eq (pc1 := 20) C 31 d_T_bears_17 rfl (by decide) (fun c1 => ?_) (fun c1 => ?_)
    · replace hF := ite_t hF c1
      refine g_aload_n (pc1 := 32) C d_T_bears_31 rfl rfl 0 rfl ?_
      refine g_bipush (pc1 := 34) (v := (-10 : Int32)) C d_T_bears_32 rfl bp_m10 ?_
      obtain ⟨⟨r2, m2⟩, hm2, hF⟩ := bnd_some hF
      refine g_callVI (pc1 := 37) (ws1 := WC a cs m2) (As := [.int (-10 : Int32)]) (rest := []) (b := a 0) C hK 1 (c_T_bad l D cs a μ (-10 : Int32) r2 m2 hm2) s_T_bad kw_15 0 rfl rfl rfl ⟨Nat.le_of_ble_eq_true rfl, Nat.le_of_ble_eq_true rfl⟩ ⟨rfl, rfl⟩ d_T_bears_34 rfl rfl (Nat.le_of_ble_eq_true rfl) ?_
      exact g_iret C hr hlk d_T_bears_37 (fst_of hF) (congrArg (WC a cs) (snd_of hF))
    · replace hF := ite_f hF c1
      refine g_aload_n (pc1 := 21) C d_T_bears_20 rfl rfl 0 rfl ?_
      obtain ⟨m3, hm3, hF⟩ := bnd_some hF
      refine g_callVR (pc1 := 24) (ws1 := WC a cs m3) (As := []) (rest := []) (b := a 0) C hK 0 (c_T_asItIs l D cs a μ  m3 hm3) s_T_asItIs kw_81 0 rfl rfl rfl ⟨Nat.le_of_ble_eq_true rfl, Nat.le_of_ble_eq_true rfl⟩ ⟨rfl, rfl⟩ d_T_bears_21 rfl rfl (Nat.le_of_ble_eq_true rfl) ?_
      refine g_iload_n (pc1 := 25) C d_T_bears_24 rfl rfl 1 rfl ?_
      obtain ⟨r4, hr4, hF⟩ := bnd_some hF
      refine g_callVI (pc1 := 28) (ws1 := WC a cs m3) (As := [.int x1]) (rest := []) (b := a 7) C hK 1 (c_G_borneBy l D cs a m3 x1 r4 hr4) s_G_borneBy kw_97 7 rfl rfl rfl ⟨Nat.le_of_ble_eq_true rfl, Nat.le_of_ble_eq_true rfl⟩ ⟨rfl, rfl⟩ d_T_bears_25 rfl rfl (Nat.le_of_ble_eq_true rfl) ?_
      refine g_goto C 37 d_T_bears_28 (by decide) ?_
      exact g_iret C hr hlk d_T_bears_37 (fst_of hF) (congrArg (WC a cs) (snd_of hF))
  · replace hF := ite_t hF c1
    refine g_aload_n (pc1 := 6) C d_T_bears_5 rfl rfl 0 rfl ?_
    obtain ⟨m5, hm5, hF⟩ := bnd_some hF
    refine g_callVR (pc1 := 9) (ws1 := WC a cs m5) (As := []) (rest := []) (b := a 0) C hK 0 (c_T_asItIs l D cs a μ  m5 hm5) s_T_asItIs kw_81 0 rfl rfl rfl ⟨Nat.le_of_ble_eq_true rfl, Nat.le_of_ble_eq_true rfl⟩ ⟨rfl, rfl⟩ d_T_bears_6 rfl rfl (Nat.le_of_ble_eq_true rfl) ?_
    obtain ⟨r6, hr6, hF⟩ := bnd_some hF
    refine g_callVI (pc1 := 12) (ws1 := WC a cs m5) (As := []) (rest := []) (b := a 7) C hK 0 (c_G_weakestWay l D cs a m5  r6 hr6) s_G_weakestWay kw_98 7 rfl rfl rfl ⟨Nat.le_of_ble_eq_true rfl, Nat.le_of_ble_eq_true rfl⟩ ⟨rfl, rfl⟩ d_T_bears_9 rfl rfl (Nat.le_of_ble_eq_true rfl) ?_
    exact g_iret C hr hlk d_T_bears_12 (fst_of hF) (congrArg (WC a cs) (snd_of hF))
-- TentPegs$Plans.bestToDouble(I)I
set_option maxHeartbeats 4000000 in
set_option maxRecDepth 100000 in
theorem p_P_bestToDouble_100 {p : Program} {l : Launch} {e : Env} {s : State} {m : MethodId} {args : Array Value} {below : List Frame} {meth : Method} {c : Code} {D : va_G} {cs : Nat → ClassId} {a : Nat → Nat} {r : Int32} {μ1 : Mem} (C : Cx p s m args c b_P_bestToDouble 8 "TentPegs$Plans") (hK : va_K D classes (tys cs) s) (hr : meth.sig.returnType = (some .int)) (hlk : meth.locks = false) (K7 : Mem → Int32 → Int32 → Int32 → Int32 → Option (Int32 × Mem)) (hK7 : ∀ (μ : Mem) (x1 : Int32) (x2 : Int32) (x3 : Int32) (x4 : Int32), K7 μ x1 x2 x3 x4 = some (r, μ1) → G p l e { frames := 6, cells := 0, slots := 0, locals := 133 } s m args below meth c (MQ below (Qi (AC a) D (WC a cs μ1) r) args s 0 0 (AC a)) D (AC a) 8 (WC a cs μ) 7 [(0, .ref (a 10)), (1, .int x1), (2, .int x2), (3, .int x3), (4, .int x4)] []) (K23 : Mem → Int32 → Int32 → Int32 → Int32 → Int32 → Option (Int32 × Mem)) (hK23 : ∀ (μ : Mem) (x1 : Int32) (x2 : Int32) (x3 : Int32) (x4 : Int32) (x5 : Int32), K23 μ x1 x2 x3 x4 x5 = some (r, μ1) → G p l e { frames := 6, cells := 0, slots := 0, locals := 133 } s m args below meth c (MQ below (Qi (AC a) D (WC a cs μ1) r) args s 0 0 (AC a)) D (AC a) 8 (WC a cs μ) 23 [(0, .ref (a 10)), (1, .int x1), (2, .int x2), (3, .int x3), (4, .int x4), (5, .int x5)] []) (μ : Mem) (x1 : Int32) (x3 : Int32) (x4 : Int32) (x5 : Int32) (x7 : Int32) (s0 : Int32) (hF : F_P_bestToDouble_100 K7 K23 μ x1 x3 x4 x5 x7 s0 = some (r, μ1)) : G p l e { frames := 6, cells := 0, slots := 0, locals := 133 } s m args below meth c (MQ below (Qi (AC a) D (WC a cs μ1) r) args s 0 0 (AC a)) D (AC a) 8 (WC a cs μ) 100 [(0, .ref (a 10)), (1, .int x1), (3, .int x3), (4, .int x4), (5, .int x5), (7, .int x7)] [.int s0] := by
  unfold F_P_bestToDouble_100 at hF
  refine g_istore_n (pc1 := 101) (L1 := [(2, .int s0), (0, .ref (a 10)), (1, .int x1), (3, .int x3), (4, .int x4), (5, .int x5), (7, .int x7)]) C d_P_bestToDouble_100 rfl rfl (by decide) rfl ?_
  refine g_iload_n (pc1 := 102) C d_P_bestToDouble_101 rfl rfl 3 rfl ?_
  refine g_iload (pc1 := 104) C d_P_bestToDouble_102 rfl 6 rfl ?_
  refine g_mmax (pc1 := 107) (rest := []) C kw_106 (Nat.le_of_ble_eq_true rfl) (Nat.le_of_ble_eq_true rfl) d_P_bestToDouble_104 rfl ?_
  refine g_istore_n (pc1 := 108) (L1 := [(3, .int (if x3 < x7 then x7 else x3)), (2, .int s0), (0, .ref (a 10)), (1, .int x1), (4, .int x4), (5, .int x5), (7, .int x7)]) C d_P_bestToDouble_107 rfl rfl (by decide) rfl ?_
  refine g_iinc (pc1 := 111) (v := (x5 + (1 : Int32))) (L1 := [(5, .int (x5 + (1 : Int32))), (3, .int (if x3 < x7 then x7 else x3)), (2, .int s0), (0, .ref (a 10)), (1, .int x1), (4, .int x4), (7, .int x7)]) C d_P_bestToDouble_108 rfl 5 rfl (by rw [ic_1]) (by decide) rfl ?_
  refine g_goto C 23 d_P_bestToDouble_111 (by decide) ?_
  exact g_sub [3, 4, 2, 1, 5, 0] rfl (hK23 μ x1 s0 (if x3 < x7 then x7 else x3) x4 (x5 + (1 : Int32)) hF)
set_option maxHeartbeats 4000000 in
set_option maxRecDepth 100000 in
theorem p_P_bestToDouble_23 {p : Program} {l : Launch} {e : Env} {s : State} {m : MethodId} {args : Array Value} {below : List Frame} {meth : Method} {c : Code} {D : va_G} {cs : Nat → ClassId} {a : Nat → Nat} {r : Int32} {μ1 : Mem} (C : Cx p s m args c b_P_bestToDouble 8 "TentPegs$Plans") (hK : va_K D classes (tys cs) s) (hr : meth.sig.returnType = (some .int)) (hlk : meth.locks = false) (K7 : Mem → Int32 → Int32 → Int32 → Int32 → Option (Int32 × Mem)) (hK7 : ∀ (μ : Mem) (x1 : Int32) (x2 : Int32) (x3 : Int32) (x4 : Int32), K7 μ x1 x2 x3 x4 = some (r, μ1) → G p l e { frames := 6, cells := 0, slots := 0, locals := 133 } s m args below meth c (MQ below (Qi (AC a) D (WC a cs μ1) r) args s 0 0 (AC a)) D (AC a) 8 (WC a cs μ) 7 [(0, .ref (a 10)), (1, .int x1), (2, .int x2), (3, .int x3), (4, .int x4)] []) : ∀ (μ : Mem) (x1 : Int32) (x2 : Int32) (x3 : Int32) (x4 : Int32) (x5 : Int32), F_P_bestToDouble_23 K7 μ x1 x2 x3 x4 x5 = some (r, μ1) → G p l e { frames := 6, cells := 0, slots := 0, locals := 133 } s m args below meth c (MQ below (Qi (AC a) D (WC a cs μ1) r) args s 0 0 (AC a)) D (AC a) 8 (WC a cs μ) 23 [(0, .ref (a 10)), (1, .int x1), (2, .int x2), (3, .int x3), (4, .int x4), (5, .int x5)] [] := by
  refine iter_ind (fun (K23 : Mem → Int32 → Int32 → Int32 → Int32 → Int32 → Option (Int32 × Mem)) => ∀ (μ : Mem) (x1 : Int32) (x2 : Int32) (x3 : Int32) (x4 : Int32) (x5 : Int32), K23 μ x1 x2 x3 x4 x5 = some (r, μ1) → G p l e { frames := 6, cells := 0, slots := 0, locals := 133 } s m args below meth c (MQ below (Qi (AC a) D (WC a cs μ1) r) args s 0 0 (AC a)) D (AC a) 8 (WC a cs μ) 23 [(0, .ref (a 10)), (1, .int x1), (2, .int x2), (3, .int x3), (4, .int x4), (5, .int x5)] []) ?_ ?_ NF
  · intro μ x1 x2 x3 x4 x5 hF
    exact none_no hF
  · intro K23 hK23 μ x1 x2 x3 x4 x5 hF
    unfold S_P_bestToDouble_23 at hF
    refine g_iload (pc1 := 25) C d_P_bestToDouble_23 rfl 5 rfl ?_
    refine g_aload_n (pc1 := 26) C d_P_bestToDouble_25 rfl rfl 0 rfl ?_
    refine get_WC_10_field (pc1 := 29) C hK kw_99 d_P_bestToDouble_26 rfl ?_
    refine get_WC_1_pegs (pc1 := 32) C hK (v := (μ.1 1 0)) rfl kw_100 d_P_bestToDouble_29 rfl ?_
    refine g_icmp_ge (pc1 := 35) C 114 d_P_bestToDouble_32 rfl (by decide) (fun c1 => ?_) (fun c1 => ?_)
    · replace hF := ite_t hF c1
      refine g_iinc (pc1 := 117) (v := (x4 + (1 : Int32))) (L1 := [(4, .int (x4 + (1 : Int32))), (0, .ref (a 10)), (1, .int x1), (2, .int x2), (3, .int x3), (5, .int x5)]) C d_P_bestToDouble_114 rfl 4 rfl (by rw [ic_1]) (by decide) rfl ?_
      refine g_goto C 7 d_P_bestToDouble_117 (by decide) ?_
      exact g_sub [1, 2, 3, 4, 0] rfl (hK7 μ x1 x2 x3 (x4 + (1 : Int32)) hF)
    · replace hF := ite_f hF c1
      refine g_iconst (pc1 := 36) (v := (1 : Int32)) C d_P_bestToDouble_35 rfl ic_1 ?_
      refine g_iload (pc1 := 38) C d_P_bestToDouble_36 rfl 4 rfl ?_
      refine g_ishl (pc1 := 39) C d_P_bestToDouble_38 rfl ?_
      refine g_iconst (pc1 := 40) (v := (1 : Int32)) C d_P_bestToDouble_39 rfl ic_1 ?_
      refine g_iload (pc1 := 42) C d_P_bestToDouble_40 rfl 5 rfl ?_
      refine g_ishl (pc1 := 43) C d_P_bestToDouble_42 rfl ?_
      refine g_ior (pc1 := 44) C d_P_bestToDouble_43 rfl ?_
      refine g_istore (pc1 := 46) (L1 := [(6, .int (((1 : Int32) <<< (x4 &&& 31)) ||| ((1 : Int32) <<< (x5 &&& 31)))), (0, .ref (a 10)), (1, .int x1), (2, .int x2), (3, .int x3), (4, .int x4), (5, .int x5)]) C d_P_bestToDouble_44 rfl (by decide) rfl ?_
      refine g_iload (pc1 := 48) C d_P_bestToDouble_46 rfl 0 rfl ?_
      obtain ⟨r1, hr1, hF⟩ := bnd_some hF
      refine g_callSI (pc1 := 51) (As := [.int (((1 : Int32) <<< (x4 &&& 31)) ||| ((1 : Int32) <<< (x5 &&& 31)))]) (rest := []) C 1 (c_JI_bitCount l (((1 : Int32) <<< (x4 &&& 31)) ||| ((1 : Int32) <<< (x5 &&& 31))) r1 hr1) s_JI_bitCount kw_101 rfl ⟨Nat.le_of_ble_eq_true rfl, Nat.le_of_ble_eq_true rfl⟩ ⟨rfl, rfl⟩ d_P_bestToDouble_48 rfl rfl (Nat.le_of_ble_eq_true rfl) ?_
      refine g_iload_n (pc1 := 52) C d_P_bestToDouble_51 rfl rfl 2 rfl ?_
      refine g_icmp_ne (pc1 := 55) C 108 d_P_bestToDouble_52 rfl (by decide) (fun c1 => ?_) (fun c1 => ?_)
      · replace hF := ite_f hF c1
        refine g_iinc (pc1 := 111) (v := (x5 + (1 : Int32))) (L1 := [(5, .int (x5 + (1 : Int32))), (6, .int (((1 : Int32) <<< (x4 &&& 31)) ||| ((1 : Int32) <<< (x5 &&& 31)))), (0, .ref (a 10)), (1, .int x1), (2, .int x2), (3, .int x3), (4, .int x4)]) C d_P_bestToDouble_108 rfl 6 rfl (by rw [ic_1]) (by decide) rfl ?_
        refine g_goto C 23 d_P_bestToDouble_111 (by decide) ?_
        exact g_sub [2, 3, 4, 5, 6, 0] rfl (hK23 μ x1 x2 x3 x4 (x5 + (1 : Int32)) hF)
      · replace hF := ite_t hF c1
        refine g_iload (pc1 := 57) C d_P_bestToDouble_55 rfl 0 rfl ?_
        refine g_aload_n (pc1 := 58) C d_P_bestToDouble_57 rfl rfl 1 rfl ?_
        refine get_WC_10_gale (pc1 := 61) C hK kw_102 d_P_bestToDouble_58 rfl ?_
        refine get_WC_7_standing (pc1 := 64) C hK (v := (μ.1 7 4)) rfl kw_103 d_P_bestToDouble_61 rfl ?_
        refine g_iconst (pc1 := 65) (v := (-1 : Int32)) C d_P_bestToDouble_64 rfl ic_m1 ?_
        refine g_ixor (pc1 := 66) C d_P_bestToDouble_65 rfl ?_
        refine g_iand (pc1 := 67) C d_P_bestToDouble_66 rfl ?_
        refine g_if_ne (pc1 := 70) C 108 d_P_bestToDouble_67 rfl (by decide) (fun c1 => ?_) (fun c1 => ?_)
        · replace hF := ite_f hF c1
          refine g_iinc (pc1 := 111) (v := (x5 + (1 : Int32))) (L1 := [(5, .int (x5 + (1 : Int32))), (6, .int (((1 : Int32) <<< (x4 &&& 31)) ||| ((1 : Int32) <<< (x5 &&& 31)))), (0, .ref (a 10)), (1, .int x1), (2, .int x2), (3, .int x3), (4, .int x4)]) C d_P_bestToDouble_108 rfl 6 rfl (by rw [ic_1]) (by decide) rfl ?_
          refine g_goto C 23 d_P_bestToDouble_111 (by decide) ?_
          exact g_sub [2, 3, 4, 5, 6, 0] rfl (hK23 μ x1 x2 x3 x4 (x5 + (1 : Int32)) hF)
        · replace hF := ite_t hF c1
          refine g_aload_n (pc1 := 71) C d_P_bestToDouble_70 rfl rfl 1 rfl ?_
          refine get_WC_10_gale (pc1 := 74) C hK kw_102 d_P_bestToDouble_71 rfl ?_
          refine g_iload (pc1 := 76) C d_P_bestToDouble_74 rfl 0 rfl ?_
          refine put_WC_7_doubled (pc1 := 79) C hK kw_104 d_P_bestToDouble_76 rfl ?_
          refine g_aload_n (pc1 := 80) C d_P_bestToDouble_79 rfl rfl 1 rfl ?_
          refine get_WC_10_gale (pc1 := 83) C hK kw_102 d_P_bestToDouble_80 rfl ?_
          obtain ⟨r2, hr2, hF⟩ := bnd_some hF
          refine g_callVI (pc1 := 86) (ws1 := WC a cs (stI μ 7 7 (((1 : Int32) <<< (x4 &&& 31)) ||| ((1 : Int32) <<< (x5 &&& 31))))) (As := []) (rest := []) (b := a 7) C hK 0 (c_G_leastBorne l D cs a (stI μ 7 7 (((1 : Int32) <<< (x4 &&& 31)) ||| ((1 : Int32) <<< (x5 &&& 31))))  r2 hr2) s_G_leastBorne kw_105 7 rfl rfl rfl ⟨Nat.le_of_ble_eq_true rfl, Nat.le_of_ble_eq_true rfl⟩ ⟨rfl, rfl⟩ d_P_bestToDouble_83 rfl rfl (Nat.le_of_ble_eq_true rfl) ?_
          refine g_istore (pc1 := 88) (L1 := [(7, .int r2), (6, .int (((1 : Int32) <<< (x4 &&& 31)) ||| ((1 : Int32) <<< (x5 &&& 31)))), (0, .ref (a 10)), (1, .int x1), (2, .int x2), (3, .int x3), (4, .int x4), (5, .int x5)]) C d_P_bestToDouble_86 rfl (by decide) rfl ?_
          refine g_iload (pc1 := 90) C d_P_bestToDouble_88 rfl 0 rfl ?_
          refine g_iload_n (pc1 := 91) C d_P_bestToDouble_90 rfl rfl 5 rfl ?_
          refine g_icmp_le (pc1 := 94) C 99 d_P_bestToDouble_91 rfl (by decide) (fun c1 => ?_) (fun c1 => ?_)
          · replace hF := ite_t hF c1
            refine g_iload_n (pc1 := 100) C d_P_bestToDouble_99 rfl rfl 4 rfl ?_
            exact g_sub [2, 3, 5, 6, 7, 0] rfl (p_P_bestToDouble_100 C hK hr hlk K7 hK7 K23 hK23 (stI μ 7 7 (((1 : Int32) <<< (x4 &&& 31)) ||| ((1 : Int32) <<< (x5 &&& 31)))) x1 x3 x4 x5 r2 x2 hF)
          · replace hF := ite_f hF c1
            refine g_iload (pc1 := 96) C d_P_bestToDouble_94 rfl 1 rfl ?_
            refine g_goto C 100 d_P_bestToDouble_96 (by decide) ?_
            exact g_sub [2, 3, 5, 6, 7, 0] rfl (p_P_bestToDouble_100 C hK hr hlk K7 hK7 K23 hK23 (stI μ 7 7 (((1 : Int32) <<< (x4 &&& 31)) ||| ((1 : Int32) <<< (x5 &&& 31)))) x1 x3 x4 x5 r2 (((1 : Int32) <<< (x4 &&& 31)) ||| ((1 : Int32) <<< (x5 &&& 31))) hF)
set_option maxHeartbeats 4000000 in
set_option maxRecDepth 100000 in
theorem p_P_bestToDouble_7 {p : Program} {l : Launch} {e : Env} {s : State} {m : MethodId} {args : Array Value} {below : List Frame} {meth : Method} {c : Code} {D : va_G} {cs : Nat → ClassId} {a : Nat → Nat} {r : Int32} {μ1 : Mem} (C : Cx p s m args c b_P_bestToDouble 8 "TentPegs$Plans") (hK : va_K D classes (tys cs) s) (hr : meth.sig.returnType = (some .int)) (hlk : meth.locks = false)  : ∀ (μ : Mem) (x1 : Int32) (x2 : Int32) (x3 : Int32) (x4 : Int32), F_P_bestToDouble_7  μ x1 x2 x3 x4 = some (r, μ1) → G p l e { frames := 6, cells := 0, slots := 0, locals := 133 } s m args below meth c (MQ below (Qi (AC a) D (WC a cs μ1) r) args s 0 0 (AC a)) D (AC a) 8 (WC a cs μ) 7 [(0, .ref (a 10)), (1, .int x1), (2, .int x2), (3, .int x3), (4, .int x4)] [] := by
  refine iter_ind (fun (K7 : Mem → Int32 → Int32 → Int32 → Int32 → Option (Int32 × Mem)) => ∀ (μ : Mem) (x1 : Int32) (x2 : Int32) (x3 : Int32) (x4 : Int32), K7 μ x1 x2 x3 x4 = some (r, μ1) → G p l e { frames := 6, cells := 0, slots := 0, locals := 133 } s m args below meth c (MQ below (Qi (AC a) D (WC a cs μ1) r) args s 0 0 (AC a)) D (AC a) 8 (WC a cs μ) 7 [(0, .ref (a 10)), (1, .int x1), (2, .int x2), (3, .int x3), (4, .int x4)] []) ?_ ?_ NF
  · intro μ x1 x2 x3 x4 hF
    exact none_no hF
  · intro K7 hK7 μ x1 x2 x3 x4 hF
    unfold S_P_bestToDouble_7 at hF
    refine g_iload (pc1 := 9) C d_P_bestToDouble_7 rfl 4 rfl ?_
    refine g_aload_n (pc1 := 10) C d_P_bestToDouble_9 rfl rfl 0 rfl ?_
    refine get_WC_10_field (pc1 := 13) C hK kw_99 d_P_bestToDouble_10 rfl ?_
    refine get_WC_1_pegs (pc1 := 16) C hK (v := (μ.1 1 0)) rfl kw_100 d_P_bestToDouble_13 rfl ?_
    refine g_icmp_ge (pc1 := 19) C 120 d_P_bestToDouble_16 rfl (by decide) (fun c1 => ?_) (fun c1 => ?_)
    · replace hF := ite_t hF c1
      refine g_iload_n (pc1 := 121) C d_P_bestToDouble_120 rfl rfl 2 rfl ?_
      exact g_iret C hr hlk d_P_bestToDouble_121 (fst_of hF) (congrArg (WC a cs) (snd_of hF))
    · replace hF := ite_f hF c1
      refine g_iload (pc1 := 21) C d_P_bestToDouble_19 rfl 4 rfl ?_
      refine g_istore (pc1 := 23) (L1 := [(5, .int x4), (0, .ref (a 10)), (1, .int x1), (2, .int x2), (3, .int x3), (4, .int x4)]) C d_P_bestToDouble_21 rfl (by decide) rfl ?_
      exact g_sub [1, 2, 3, 4, 5, 0] rfl (p_P_bestToDouble_23 C hK hr hlk K7 hK7 μ x1 x2 x3 x4 x4 hF)
set_option maxHeartbeats 4000000 in
set_option maxRecDepth 100000 in
theorem c_P_bestToDouble (l : Launch) (D : va_G) (cs : Nat → ClassId) (a : Nat → Nat) (μ : Mem) (x1 : Int32) (r : Int32) (μ1 : Mem) (hF : F_P_bestToDouble μ x1 = some (r, μ1)) : MetI l y_P_bestToDouble b_P_bestToDouble 8 (some .int) { frames := 6, cells := 0, slots := 0, locals := 133 } D cs (AC a) (WC a cs μ) [.ref (a 10), .int x1] r (WC a cs μ1) := by
  refine met_of rfl (by decide +kernel) (Nat.le_of_ble_eq_true rfl) (fun p e s m below meth c C hK hr hlk => ?_)
  unfold F_P_bestToDouble at hF
  show G p l e { frames := 6, cells := 0, slots := 0, locals := 133 } s m _ below meth c _ D (AC a) 8 (WC a cs μ) 0 [(0, .ref (a 10)), (1, .int x1)] []
  refine g_iconst (pc1 := 1) (v := (0 : Int32)) C d_P_bestToDouble_0 rfl ic_0 ?_
  refine g_istore_n (pc1 := 2) (L1 := [(2, .int (0 : Int32)), (0, .ref (a 10)), (1, .int x1)]) C d_P_bestToDouble_1 rfl rfl (by decide) rfl ?_
  refine g_iconst (pc1 := 3) (v := (-1 : Int32)) C d_P_bestToDouble_2 rfl ic_m1 ?_
  refine g_istore_n (pc1 := 4) (L1 := [(3, .int (-1 : Int32)), (2, .int (0 : Int32)), (0, .ref (a 10)), (1, .int x1)]) C d_P_bestToDouble_3 rfl rfl (by decide) rfl ?_
  refine g_iconst (pc1 := 5) (v := (0 : Int32)) C d_P_bestToDouble_4 rfl ic_0 ?_
  refine g_istore (pc1 := 7) (L1 := [(4, .int (0 : Int32)), (3, .int (-1 : Int32)), (2, .int (0 : Int32)), (0, .ref (a 10)), (1, .int x1)]) C d_P_bestToDouble_5 rfl (by decide) rfl ?_
  exact g_sub [3, 4, 2, 1, 0] rfl (p_P_bestToDouble_7 C hK hr hlk  μ x1 (0 : Int32) (-1 : Int32) (0 : Int32) hF)
-- TentPegs$Plans.memberOf(II)I
set_option maxHeartbeats 4000000 in
set_option maxRecDepth 100000 in
theorem p_P_memberOf_4 {p : Program} {l : Launch} {e : Env} {s : State} {m : MethodId} {args : Array Value} {below : List Frame} {meth : Method} {c : Code} {r : Int32} (C : Cx p s m args c b_P_memberOf 4 "TentPegs$Plans") (hr : meth.sig.returnType = (some .int)) (hlk : meth.locks = false)  : ∀ (x0 : Int32) (x2 : Int32) (x3 : Int32), F_P_memberOf_4  x0 x2 x3 = some r → G p l e { frames := 1, cells := 0, slots := 0, locals := 21 } s m args below meth c (MQ below (Qi (fun _ => False) (fun _ => 0, fun _ _ => 0) [] r) args s 0 0 (fun _ => False)) (fun _ => 0, fun _ _ => 0) (fun _ => False) 4 [] 4 [(0, .int x0), (2, .int x2), (3, .int x3)] [] := by
  refine iter_ind (fun (K4 : Int32 → Int32 → Int32 → Option Int32) => ∀ (x0 : Int32) (x2 : Int32) (x3 : Int32), K4 x0 x2 x3 = some r → G p l e { frames := 1, cells := 0, slots := 0, locals := 21 } s m args below meth c (MQ below (Qi (fun _ => False) (fun _ => 0, fun _ _ => 0) [] r) args s 0 0 (fun _ => False)) (fun _ => 0, fun _ _ => 0) (fun _ => False) 4 [] 4 [(0, .int x0), (2, .int x2), (3, .int x3)] []) ?_ ?_ NF
  · intro x0 x2 x3 hF
    exact none_no hF
  · intro K4 hK4 x0 x2 x3 hF
    unfold S_P_memberOf_4 at hF
    refine g_iload_n (pc1 := 5) C d_P_memberOf_4 rfl rfl 2 rfl ?_
    refine g_bipush (pc1 := 7) (v := (8 : Int32)) C d_P_memberOf_5 rfl bp_8 ?_
    refine g_icmp_ge (pc1 := 10) C 33 d_P_memberOf_7 rfl (by decide) (fun c1 => ?_) (fun c1 => ?_)
    · replace hF := ite_t hF c1
      refine g_iconst (pc1 := 34) (v := (-1 : Int32)) C d_P_memberOf_33 rfl ic_m1 ?_
      exact g_iret C hr hlk d_P_memberOf_34 (Option.some.inj hF) rfl
    · replace hF := ite_f hF c1
      refine g_iload_n (pc1 := 11) C d_P_memberOf_10 rfl rfl 0 rfl ?_
      refine g_iload_n (pc1 := 12) C d_P_memberOf_11 rfl rfl 2 rfl ?_
      obtain ⟨r1, hr1, hF⟩ := bnd_some hF
      refine g_callNI (pc1 := 15) (As := [.int x0, .int x3]) (rest := []) C 2 (c_T_has l x0 x3 r1 hr1) s_T_has 10 rfl rfl ⟨Nat.le_of_ble_eq_true rfl, Nat.le_of_ble_eq_true rfl⟩ ⟨rfl, rfl⟩ d_P_memberOf_12 rfl rfl (Nat.le_of_ble_eq_true rfl) ?_
      refine g_if_eq (pc1 := 18) C 27 d_P_memberOf_15 rfl (by decide) (fun c1 => ?_) (fun c1 => ?_)
      · replace hF := ite_t hF c1
        refine g_iinc (pc1 := 30) (v := (x3 + (1 : Int32))) (L1 := [(3, .int (x3 + (1 : Int32))), (0, .int x0), (2, .int x2)]) C d_P_memberOf_27 rfl 2 rfl (by rw [ic_1]) (by decide) rfl ?_
        refine g_goto C 4 d_P_memberOf_30 (by decide) ?_
        exact g_sub [1, 2, 0] rfl (hK4 x0 x2 (x3 + (1 : Int32)) hF)
      · replace hF := ite_f hF c1
        refine g_iload_n (pc1 := 19) C d_P_memberOf_18 rfl rfl 1 rfl ?_
        refine g_if_ne (pc1 := 22) C 24 d_P_memberOf_19 rfl (by decide) (fun c1 => ?_) (fun c1 => ?_)
        · replace hF := ite_f hF c1
          refine g_iinc (pc1 := 27) (v := (x2 + (-1 : Int32))) (L1 := [(2, .int (x2 + (-1 : Int32))), (0, .int x0), (3, .int x3)]) C d_P_memberOf_24 rfl 1 rfl (by rw [ic_m1]) (by decide) rfl ?_
          refine g_iinc (pc1 := 30) (v := (x3 + (1 : Int32))) (L1 := [(3, .int (x3 + (1 : Int32))), (2, .int (x2 + (-1 : Int32))), (0, .int x0)]) C d_P_memberOf_27 rfl 2 rfl (by rw [ic_1]) (by decide) rfl ?_
          refine g_goto C 4 d_P_memberOf_30 (by decide) ?_
          exact g_sub [2, 1, 0] rfl (hK4 x0 (x2 + (-1 : Int32)) (x3 + (1 : Int32)) hF)
        · replace hF := ite_t hF c1
          refine g_iload_n (pc1 := 23) C d_P_memberOf_22 rfl rfl 2 rfl ?_
          exact g_iret C hr hlk d_P_memberOf_23 (Option.some.inj hF) rfl
set_option maxHeartbeats 4000000 in
set_option maxRecDepth 100000 in
theorem c_P_memberOf (l : Launch) (x0 : Int32) (x1 : Int32) (r : Int32) (hF : F_P_memberOf x0 x1 = some r) : SetI l y_P_memberOf b_P_memberOf 4 (some .int) { frames := 1, cells := 0, slots := 0, locals := 21 } [.int x0, .int x1] r := by
  refine met_ofS rfl (by decide +kernel) (Nat.le_of_ble_eq_true rfl) (fun p e s m below meth c C hr hlk => ?_)
  unfold F_P_memberOf at hF
  show G p l e { frames := 1, cells := 0, slots := 0, locals := 21 } s m _ below meth c _ (fun _ => 0, fun _ _ => 0) (fun _ => False) 4 [] 0 [(0, .int x0), (1, .int x1)] []
  refine g_iload_n (pc1 := 1) C d_P_memberOf_0 rfl rfl 1 rfl ?_
  refine g_istore_n (pc1 := 2) (L1 := [(2, .int x1), (0, .int x0), (1, .int x1)]) C d_P_memberOf_1 rfl rfl (by decide) rfl ?_
  refine g_iconst (pc1 := 3) (v := (0 : Int32)) C d_P_memberOf_2 rfl ic_0 ?_
  refine g_istore_n (pc1 := 4) (L1 := [(3, .int (0 : Int32)), (2, .int x1), (0, .int x0), (1, .int x1)]) C d_P_memberOf_3 rfl rfl (by decide) rfl ?_
  exact g_sub [2, 1, 0] rfl (p_P_memberOf_4 C hr hlk  x0 x1 (0 : Int32) hF)
-- TentPegs.twofold(II)I
set_option maxHeartbeats 4000000 in
set_option maxRecDepth 100000 in
theorem p_T_twofold_14 {p : Program} {l : Launch} {e : Env} {s : State} {m : MethodId} {args : Array Value} {below : List Frame} {meth : Method} {c : Code} {D : va_G} {cs : Nat → ClassId} {a : Nat → Nat} {r : Int32} {μ1 : Mem} (C : Cx p s m args c b_T_twofold 4 "TentPegs") (hK : va_K D classes (tys cs) s) (hr : meth.sig.returnType = (some .int)) (hlk : meth.locks = false)  (μ : Mem)  (hF : F_T_twofold_14  μ = some (r, μ1)) : G p l e { frames := 7, cells := 0, slots := 0, locals := 160 } s m args below meth c (MQ below (Qi (AC a) D (WC a cs μ1) r) args s 0 0 (AC a)) D (AC a) 4 (WC a cs μ) 14 [(0, .ref (a 0))] [] := by
  unfold F_T_twofold_14 at hF
  refine g_aload_n (pc1 := 15) C d_T_twofold_14 rfl rfl 0 rfl ?_
  refine g_bipush (pc1 := 17) (v := (-10 : Int32)) C d_T_twofold_15 rfl bp_m10 ?_
  obtain ⟨⟨r1, m1⟩, hm1, hF⟩ := bnd_some hF
  refine g_callVI (pc1 := 20) (ws1 := WC a cs m1) (As := [.int (-10 : Int32)]) (rest := []) (b := a 0) C hK 1 (c_T_bad l D cs a μ (-10 : Int32) r1 m1 hm1) s_T_bad kw_15 0 rfl rfl rfl ⟨Nat.le_of_ble_eq_true rfl, Nat.le_of_ble_eq_true rfl⟩ ⟨rfl, rfl⟩ d_T_twofold_17 rfl rfl (Nat.le_of_ble_eq_true rfl) ?_
  exact g_iret C hr hlk d_T_twofold_20 (fst_of hF) (congrArg (WC a cs) (snd_of hF))
set_option maxHeartbeats 4000000 in
set_option maxRecDepth 100000 in
theorem c_T_twofold (l : Launch) (D : va_G) (cs : Nat → ClassId) (a : Nat → Nat) (μ : Mem) (x1 : Int32) (x2 : Int32) (r : Int32) (μ1 : Mem) (hF : F_T_twofold μ x1 x2 = some (r, μ1)) : MetI l y_T_twofold b_T_twofold 4 (some .int) { frames := 7, cells := 0, slots := 0, locals := 160 } D cs (AC a) (WC a cs μ) [.ref (a 0), .int x1, .int x2] r (WC a cs μ1) := by
  refine met_of rfl (by decide +kernel) (Nat.le_of_ble_eq_true rfl) (fun p e s m below meth c C hK hr hlk => ?_)
  unfold F_T_twofold at hF
  show G p l e { frames := 7, cells := 0, slots := 0, locals := 160 } s m _ below meth c _ D (AC a) 4 (WC a cs μ) 0 [(0, .ref (a 0)), (1, .int x1), (2, .int x2)] []
  refine g_iload_n (pc1 := 1) C d_T_twofold_0 rfl rfl 1 rfl ?_
  refine g_iconst (pc1 := 2) (v := (1 : Int32)) C d_T_twofold_1 rfl ic_1 ?_
  refine g_iconst (pc1 := 3) (v := (2 : Int32)) C d_T_twofold_2 rfl ic_2 ?_
  obtain ⟨r1, hr1, hF⟩ := bnd_some hF
  refine g_callSI (pc1 := 6) (As := [.int x1, .int (1 : Int32), .int (2 : Int32)]) (rest := []) C 3 (c_T_within l x1 (1 : Int32) (2 : Int32) r1 hr1) s_T_within kw_22 rfl ⟨Nat.le_of_ble_eq_true rfl, Nat.le_of_ble_eq_true rfl⟩ ⟨rfl, rfl⟩ d_T_twofold_3 rfl rfl (Nat.le_of_ble_eq_true rfl) ?_
  refine g_if_eq (pc1 := 9) C 14 d_T_twofold_6 rfl (by decide) (fun c1 => ?_) (fun c1 => ?_)
  · replace hF := ite_t hF c1
    exact g_sub [0] rfl (p_T_twofold_14 C hK hr hlk  μ hF)
  · replace hF := ite_f hF c1
    refine g_iload_n (pc1 := 10) C d_T_twofold_9 rfl rfl 2 rfl ?_
    refine g_iconst (pc1 := 11) (v := (-1 : Int32)) C d_T_twofold_10 rfl ic_m1 ?_
    refine g_icmp_ge (pc1 := 14) C 21 d_T_twofold_11 rfl (by decide) (fun c1 => ?_) (fun c1 => ?_)
    · replace hF := ite_t hF c1
      refine g_aload_n (pc1 := 22) C d_T_twofold_21 rfl rfl 0 rfl ?_
      refine get_WC_0_field (pc1 := 25) C hK kw_12 d_T_twofold_22 rfl ?_
      refine get_WC_1_standing (pc1 := 28) C hK (v := (μ.1 1 3)) rfl kw_78 d_T_twofold_25 rfl ?_
      obtain ⟨r2, hr2, hF⟩ := bnd_some hF
      refine g_callSI (pc1 := 31) (As := [.int (μ.1 1 3)]) (rest := []) C 1 (c_JI_bitCount l (μ.1 1 3) r2 hr2) s_JI_bitCount kw_38 rfl ⟨Nat.le_of_ble_eq_true rfl, Nat.le_of_ble_eq_true rfl⟩ ⟨rfl, rfl⟩ d_T_twofold_28 rfl rfl (Nat.le_of_ble_eq_true rfl) ?_
      refine g_iload_n (pc1 := 32) C d_T_twofold_31 rfl rfl 1 rfl ?_
      refine g_icmp_ge (pc1 := 35) C 37 d_T_twofold_32 rfl (by decide) (fun c1 => ?_) (fun c1 => ?_)
      · replace hF := ite_t hF c1
        refine g_iload_n (pc1 := 38) C d_T_twofold_37 rfl rfl 2 rfl ?_
        refine g_iload_n (pc1 := 39) C d_T_twofold_38 rfl rfl 1 rfl ?_
        refine g_icmp_lt (pc1 := 42) C 45 d_T_twofold_39 rfl (by decide) (fun c1 => ?_) (fun c1 => ?_)
        · replace hF := ite_t hF c1
          refine g_aload_n (pc1 := 46) C d_T_twofold_45 rfl rfl 0 rfl ?_
          obtain ⟨m3, hm3, hF⟩ := bnd_some hF
          refine g_callVR (pc1 := 49) (ws1 := WC a cs m3) (As := []) (rest := []) (b := a 0) C hK 0 (c_T_asItIs l D cs a μ  m3 hm3) s_T_asItIs kw_81 0 rfl rfl rfl ⟨Nat.le_of_ble_eq_true rfl, Nat.le_of_ble_eq_true rfl⟩ ⟨rfl, rfl⟩ d_T_twofold_46 rfl rfl (Nat.le_of_ble_eq_true rfl) ?_
          refine g_pop (pc1 := 50) C d_T_twofold_49 rfl rfl ?_
          refine g_aload_n (pc1 := 51) C d_T_twofold_50 rfl rfl 0 rfl ?_
          refine get_WC_0_plans (pc1 := 54) C hK kw_107 d_T_twofold_51 rfl ?_
          refine g_iload_n (pc1 := 55) C d_T_twofold_54 rfl rfl 1 rfl ?_
          obtain ⟨⟨r4, m4⟩, hm4, hF⟩ := bnd_some hF
          refine g_callVI (pc1 := 58) (ws1 := WC a cs m4) (As := [.int x1]) (rest := []) (b := a 10) C hK 1 (c_P_bestToDouble l D cs a m3 x1 r4 m4 hm4) s_P_bestToDouble kw_108 10 rfl rfl rfl ⟨Nat.le_of_ble_eq_true rfl, Nat.le_of_ble_eq_true rfl⟩ ⟨rfl, rfl⟩ d_T_twofold_55 rfl rfl (Nat.le_of_ble_eq_true rfl) ?_
          refine g_istore_n (pc1 := 59) (L1 := [(3, .int r4), (0, .ref (a 0)), (1, .int x1), (2, .int x2)]) C d_T_twofold_58 rfl rfl (by decide) rfl ?_
          refine g_aload_n (pc1 := 60) C d_T_twofold_59 rfl rfl 1 rfl ?_
          refine get_WC_0_gale (pc1 := 63) C hK kw_51 d_T_twofold_60 rfl ?_
          refine g_iload_n (pc1 := 64) C d_T_twofold_63 rfl rfl 0 rfl ?_
          refine put_WC_7_doubled (pc1 := 67) C hK kw_109 d_T_twofold_64 rfl ?_
          refine g_iload_n (pc1 := 68) C d_T_twofold_67 rfl rfl 3 rfl ?_
          refine g_iconst (pc1 := 69) (v := (-1 : Int32)) C d_T_twofold_68 rfl ic_m1 ?_
          refine g_icmp_ne (pc1 := 72) C 82 d_T_twofold_69 rfl (by decide) (fun c1 => ?_) (fun c1 => ?_)
          · replace hF := ite_f hF c1
            refine g_iload_n (pc1 := 83) C d_T_twofold_82 rfl rfl 0 rfl ?_
            refine g_iload_n (pc1 := 84) C d_T_twofold_83 rfl rfl 3 rfl ?_
            obtain ⟨r5, hr5, hF⟩ := bnd_some hF
            refine g_callSI (pc1 := 87) (As := [.int r4, .int x2]) (rest := []) C 2 (c_P_memberOf l r4 x2 r5 hr5) s_P_memberOf kw_110 rfl ⟨Nat.le_of_ble_eq_true rfl, Nat.le_of_ble_eq_true rfl⟩ ⟨rfl, rfl⟩ d_T_twofold_84 rfl rfl (Nat.le_of_ble_eq_true rfl) ?_
            exact g_iret C hr hlk d_T_twofold_87 (fst_of hF) (congrArg (WC a cs) (snd_of hF))
          · replace hF := ite_t hF c1
            refine g_aload_n (pc1 := 73) C d_T_twofold_72 rfl rfl 1 rfl ?_
            refine get_WC_0_gale (pc1 := 76) C hK kw_51 d_T_twofold_73 rfl ?_
            obtain ⟨r6, hr6, hF⟩ := bnd_some hF
            refine g_callVI (pc1 := 79) (ws1 := WC a cs (stI m4 7 7 r4)) (As := []) (rest := []) (b := a 7) C hK 0 (c_G_leastBorne l D cs a (stI m4 7 7 r4)  r6 hr6) s_G_leastBorne kw_111 7 rfl rfl rfl ⟨Nat.le_of_ble_eq_true rfl, Nat.le_of_ble_eq_true rfl⟩ ⟨rfl, rfl⟩ d_T_twofold_76 rfl rfl (Nat.le_of_ble_eq_true rfl) ?_
            refine g_goto C 87 d_T_twofold_79 (by decide) ?_
            exact g_iret C hr hlk d_T_twofold_87 (fst_of hF) (congrArg (WC a cs) (snd_of hF))
        · replace hF := ite_f hF c1
          refine g_bipush (pc1 := 44) (v := (-5 : Int32)) C d_T_twofold_42 rfl bp_m5 ?_
          exact g_iret C hr hlk d_T_twofold_44 (fst_of hF) (congrArg (WC a cs) (snd_of hF))
      · replace hF := ite_f hF c1
        refine g_iconst (pc1 := 36) (v := (-1 : Int32)) C d_T_twofold_35 rfl ic_m1 ?_
        exact g_iret C hr hlk d_T_twofold_36 (fst_of hF) (congrArg (WC a cs) (snd_of hF))
    · replace hF := ite_f hF c1
      exact g_sub [0] rfl (p_T_twofold_14 C hK hr hlk  μ hF)
-- TentPegs$Plans.deepEnough(III)I
set_option maxHeartbeats 4000000 in
set_option maxRecDepth 100000 in
theorem p_P_deepEnough_3 {p : Program} {l : Launch} {e : Env} {s : State} {m : MethodId} {args : Array Value} {below : List Frame} {meth : Method} {c : Code} {D : va_G} {cs : Nat → ClassId} {a : Nat → Nat} {μ : Mem} {r : Int32} (C : Cx p s m args c b_P_deepEnough 5 "TentPegs$Plans") (hK : va_K D classes (tys cs) s) (hr : meth.sig.returnType = (some .int)) (hlk : meth.locks = false)  : ∀ (x1 : Int32) (x3 : Int32) (x4 : Int32), F_P_deepEnough_3  μ x1 x3 x4 = some r → G p l e { frames := 3, cells := 0, slots := 0, locals := 66 } s m args below meth c (MQ below (Qi (AC a) D (WC a cs μ) r) args s 0 0 (AC a)) D (AC a) 5 (WC a cs μ) 3 [(0, .ref (a 10)), (1, .int x1), (3, .int x3), (4, .int x4)] [] := by
  refine iter_ind (fun (K3 : Mem → Int32 → Int32 → Int32 → Option Int32) => ∀ (x1 : Int32) (x3 : Int32) (x4 : Int32), K3 μ x1 x3 x4 = some r → G p l e { frames := 3, cells := 0, slots := 0, locals := 66 } s m args below meth c (MQ below (Qi (AC a) D (WC a cs μ) r) args s 0 0 (AC a)) D (AC a) 5 (WC a cs μ) 3 [(0, .ref (a 10)), (1, .int x1), (3, .int x3), (4, .int x4)] []) ?_ ?_ NF
  · intro x1 x3 x4 hF
    exact none_no hF
  · intro K3 hK3 x1 x3 x4 hF
    unfold S_P_deepEnough_3 at hF
    refine g_iload (pc1 := 5) C d_P_deepEnough_3 rfl 3 rfl ?_
    refine g_bipush (pc1 := 7) (v := (9 : Int32)) C d_P_deepEnough_5 rfl bp_9 ?_
    refine g_icmp_gt (pc1 := 10) C 33 d_P_deepEnough_7 rfl (by decide) (fun c1 => ?_) (fun c1 => ?_)
    · replace hF := ite_t hF c1
      refine g_bipush (pc1 := 35) (v := (10 : Int32)) C d_P_deepEnough_33 rfl bp_10 ?_
      exact g_iret C hr hlk d_P_deepEnough_35 (Option.some.inj hF) rfl
    · replace hF := ite_f hF c1
      refine g_aload_n (pc1 := 11) C d_P_deepEnough_10 rfl rfl 0 rfl ?_
      refine get_WC_10_gale (pc1 := 14) C hK kw_102 d_P_deepEnough_11 rfl ?_
      refine g_iload_n (pc1 := 15) C d_P_deepEnough_14 rfl rfl 1 rfl ?_
      refine g_iload (pc1 := 17) C d_P_deepEnough_15 rfl 3 rfl ?_
      obtain ⟨r1, hr1, hF⟩ := bnd_some hF
      refine g_callVI (pc1 := 20) (ws1 := WC a cs μ) (As := [.int x1, .int x4]) (rest := []) (b := a 7) C hK 2 (c_G_holdsAt l D cs a μ x1 x4 r1 hr1) s_G_holdsAt kw_112 7 rfl rfl rfl ⟨Nat.le_of_ble_eq_true rfl, Nat.le_of_ble_eq_true rfl⟩ ⟨rfl, rfl⟩ d_P_deepEnough_17 rfl rfl (Nat.le_of_ble_eq_true rfl) ?_
      refine g_iload_n (pc1 := 21) C d_P_deepEnough_20 rfl rfl 2 rfl ?_
      refine g_icmp_lt (pc1 := 24) C 27 d_P_deepEnough_21 rfl (by decide) (fun c1 => ?_) (fun c1 => ?_)
      · replace hF := ite_t hF c1
        refine g_iinc (pc1 := 30) (v := (x4 + (1 : Int32))) (L1 := [(4, .int (x4 + (1 : Int32))), (0, .ref (a 10)), (1, .int x1), (3, .int x3)]) C d_P_deepEnough_27 rfl 3 rfl (by rw [ic_1]) (by decide) rfl ?_
        refine g_goto C 3 d_P_deepEnough_30 (by decide) ?_
        exact g_sub [1, 2, 3, 0] rfl (hK3 x1 x3 (x4 + (1 : Int32)) hF)
      · replace hF := ite_f hF c1
        refine g_iload (pc1 := 26) C d_P_deepEnough_24 rfl 3 rfl ?_
        exact g_iret C hr hlk d_P_deepEnough_26 (Option.some.inj hF) rfl
set_option maxHeartbeats 4000000 in
set_option maxRecDepth 100000 in
theorem c_P_deepEnough (l : Launch) (D : va_G) (cs : Nat → ClassId) (a : Nat → Nat) (μ : Mem) (x1 : Int32) (x2 : Int32) (x3 : Int32) (r : Int32) (hF : F_P_deepEnough μ x1 x2 x3 = some r) : MetI l y_P_deepEnough b_P_deepEnough 5 (some .int) { frames := 3, cells := 0, slots := 0, locals := 66 } D cs (AC a) (WC a cs μ) [.ref (a 10), .int x1, .int x2, .int x3] r (WC a cs μ) := by
  refine met_of rfl (by decide +kernel) (Nat.le_of_ble_eq_true rfl) (fun p e s m below meth c C hK hr hlk => ?_)
  unfold F_P_deepEnough at hF
  show G p l e { frames := 3, cells := 0, slots := 0, locals := 66 } s m _ below meth c _ D (AC a) 5 (WC a cs μ) 0 [(0, .ref (a 10)), (1, .int x1), (2, .int x2), (3, .int x3)] []
  refine g_iload_n (pc1 := 1) C d_P_deepEnough_0 rfl rfl 2 rfl ?_
  refine g_istore (pc1 := 3) (L1 := [(4, .int x2), (0, .ref (a 10)), (1, .int x1), (2, .int x2), (3, .int x3)]) C d_P_deepEnough_1 rfl (by decide) rfl ?_
  exact g_sub [1, 2, 4, 0] rfl (p_P_deepEnough_3 C hK hr hlk  x1 x3 x2 hF)
-- TentPegs$Plans.strokesFor(II)I
set_option maxHeartbeats 4000000 in
set_option maxRecDepth 100000 in
theorem p_P_strokesFor_5 {p : Program} {l : Launch} {e : Env} {s : State} {m : MethodId} {args : Array Value} {below : List Frame} {meth : Method} {c : Code} {D : va_G} {cs : Nat → ClassId} {a : Nat → Nat} {μ : Mem} {r : Int32} (C : Cx p s m args c b_P_strokesFor 6 "TentPegs$Plans") (hK : va_K D classes (tys cs) s) (hr : meth.sig.returnType = (some .int)) (hlk : meth.locks = false)  : ∀ (x1 : Int32) (x2 : Int32) (x3 : Int32) (x4 : Int32), F_P_strokesFor_5  μ x1 x2 x3 x4 = some r → G p l e { frames := 4, cells := 0, slots := 0, locals := 90 } s m args below meth c (MQ below (Qi (AC a) D (WC a cs μ) r) args s 0 0 (AC a)) D (AC a) 6 (WC a cs μ) 5 [(0, .ref (a 10)), (1, .int x1), (2, .int x2), (3, .int x3), (4, .int x4)] [] := by
  refine iter_ind (fun (K5 : Mem → Int32 → Int32 → Int32 → Int32 → Option Int32) => ∀ (x1 : Int32) (x2 : Int32) (x3 : Int32) (x4 : Int32), K5 μ x1 x2 x3 x4 = some r → G p l e { frames := 4, cells := 0, slots := 0, locals := 90 } s m args below meth c (MQ below (Qi (AC a) D (WC a cs μ) r) args s 0 0 (AC a)) D (AC a) 6 (WC a cs μ) 5 [(0, .ref (a 10)), (1, .int x1), (2, .int x2), (3, .int x3), (4, .int x4)] []) ?_ ?_ NF
  · intro x1 x2 x3 x4 hF
    exact none_no hF
  · intro K5 hK5 x1 x2 x3 x4 hF
    unfold S_P_strokesFor_5 at hF
    refine g_iload (pc1 := 7) C d_P_strokesFor_5 rfl 4 rfl ?_
    refine g_aload_n (pc1 := 8) C d_P_strokesFor_7 rfl rfl 0 rfl ?_
    refine get_WC_10_field (pc1 := 11) C hK kw_99 d_P_strokesFor_8 rfl ?_
    refine get_WC_1_pegs (pc1 := 14) C hK (v := (μ.1 1 0)) rfl kw_100 d_P_strokesFor_11 rfl ?_
    refine g_icmp_ge (pc1 := 17) C 77 d_P_strokesFor_14 rfl (by decide) (fun c1 => ?_) (fun c1 => ?_)
    · replace hF := ite_t hF c1
      refine g_iload_n (pc1 := 78) C d_P_strokesFor_77 rfl rfl 3 rfl ?_
      exact g_iret C hr hlk d_P_strokesFor_78 (Option.some.inj hF) rfl
    · replace hF := ite_f hF c1
      refine g_aload_n (pc1 := 18) C d_P_strokesFor_17 rfl rfl 0 rfl ?_
      refine g_iload (pc1 := 20) C d_P_strokesFor_18 rfl 4 rfl ?_
      refine g_aload_n (pc1 := 21) C d_P_strokesFor_20 rfl rfl 0 rfl ?_
      refine get_WC_10_field (pc1 := 24) C hK kw_99 d_P_strokesFor_21 rfl ?_
      refine get_WC_1_depths (pc1 := 27) C hK kw_113 d_P_strokesFor_24 rfl ?_
      refine g_iload (pc1 := 29) C d_P_strokesFor_27 rfl 4 rfl ?_
      have hg := gd_some hF
      replace hF := hg.2
      refine g_iald (pc1 := 30) C hK 3 (f := (μ.1 3)) rfl hg.1 d_P_strokesFor_29 rfl ?_
      refine g_aload_n (pc1 := 31) C d_P_strokesFor_30 rfl rfl 0 rfl ?_
      refine get_WC_10_gale (pc1 := 34) C hK kw_102 d_P_strokesFor_31 rfl ?_
      refine g_iload (pc1 := 36) C d_P_strokesFor_34 rfl 4 rfl ?_
      refine g_iload_n (pc1 := 37) C d_P_strokesFor_36 rfl rfl 1 rfl ?_
      refine g_iload_n (pc1 := 38) C d_P_strokesFor_37 rfl rfl 2 rfl ?_
      obtain ⟨r1, hr1, hF⟩ := bnd_some hF
      refine g_callVI (pc1 := 41) (ws1 := WC a cs μ) (As := [.int x4, .int x1, .int x2]) (rest := [.int ((μ.1 3) x4.toNatClampNeg), .int x4, .ref (a 10)]) (b := a 7) C hK 3 (c_G_pullOn l D cs a μ x4 x1 x2 r1 hr1) s_G_pullOn kw_114 7 rfl rfl rfl ⟨Nat.le_of_ble_eq_true rfl, Nat.le_of_ble_eq_true rfl⟩ ⟨rfl, rfl⟩ d_P_strokesFor_38 rfl rfl (Nat.le_of_ble_eq_true rfl) ?_
      obtain ⟨r2, hr2, hF⟩ := bnd_some hF
      refine g_callVI (pc1 := 44) (ws1 := WC a cs μ) (As := [.int x4, .int ((μ.1 3) x4.toNatClampNeg), .int r1]) (rest := []) (b := a 10) C hK 3 (c_P_deepEnough l D cs a μ x4 ((μ.1 3) x4.toNatClampNeg) r1 r2 hr2) s_P_deepEnough kw_115 10 rfl rfl rfl ⟨Nat.le_of_ble_eq_true rfl, Nat.le_of_ble_eq_true rfl⟩ ⟨rfl, rfl⟩ d_P_strokesFor_41 rfl rfl (Nat.le_of_ble_eq_true rfl) ?_
      refine g_istore (pc1 := 46) (L1 := [(5, .int r2), (0, .ref (a 10)), (1, .int x1), (2, .int x2), (3, .int x3), (4, .int x4)]) C d_P_strokesFor_44 rfl (by decide) rfl ?_
      refine g_iload (pc1 := 48) C d_P_strokesFor_46 rfl 0 rfl ?_
      refine g_bipush (pc1 := 50) (v := (10 : Int32)) C d_P_strokesFor_48 rfl bp_10 ?_
      refine g_icmp_ne (pc1 := 53) C 55 d_P_strokesFor_50 rfl (by decide) (fun c1 => ?_) (fun c1 => ?_)
      · replace hF := ite_f hF c1
        refine g_iload_n (pc1 := 56) C d_P_strokesFor_55 rfl rfl 4 rfl ?_
        refine g_iload (pc1 := 58) C d_P_strokesFor_56 rfl 0 rfl ?_
        refine g_aload_n (pc1 := 59) C d_P_strokesFor_58 rfl rfl 1 rfl ?_
        refine get_WC_10_field (pc1 := 62) C hK kw_99 d_P_strokesFor_59 rfl ?_
        refine get_WC_1_depths (pc1 := 65) C hK kw_113 d_P_strokesFor_62 rfl ?_
        refine g_iload (pc1 := 67) C d_P_strokesFor_65 rfl 5 rfl ?_
        have hg := gd_some hF
        replace hF := hg.2
        refine g_iald (pc1 := 68) C hK 3 (f := (μ.1 3)) rfl hg.1 d_P_strokesFor_67 rfl ?_
        refine g_isub (pc1 := 69) C d_P_strokesFor_68 rfl ?_
        refine g_iadd (pc1 := 70) C d_P_strokesFor_69 rfl ?_
        refine g_istore_n (pc1 := 71) (L1 := [(3, .int (x3 + (r2 - ((μ.1 3) x4.toNatClampNeg)))), (5, .int r2), (0, .ref (a 10)), (1, .int x1), (2, .int x2), (4, .int x4)]) C d_P_strokesFor_70 rfl rfl (by decide) rfl ?_
        refine g_iinc (pc1 := 74) (v := (x4 + (1 : Int32))) (L1 := [(4, .int (x4 + (1 : Int32))), (3, .int (x3 + (r2 - ((μ.1 3) x4.toNatClampNeg)))), (5, .int r2), (0, .ref (a 10)), (1, .int x1), (2, .int x2)]) C d_P_strokesFor_71 rfl 5 rfl (by rw [ic_1]) (by decide) rfl ?_
        refine g_goto C 5 d_P_strokesFor_74 (by decide) ?_
        exact g_sub [3, 4, 5, 1, 0] rfl (hK5 x1 x2 (x3 + (r2 - ((μ.1 3) x4.toNatClampNeg))) (x4 + (1 : Int32)) hF)
      · replace hF := ite_t hF c1
        refine g_iconst (pc1 := 54) (v := (-1 : Int32)) C d_P_strokesFor_53 rfl ic_m1 ?_
        exact g_iret C hr hlk d_P_strokesFor_54 (Option.some.inj hF) rfl
set_option maxHeartbeats 4000000 in
set_option maxRecDepth 100000 in
theorem c_P_strokesFor (l : Launch) (D : va_G) (cs : Nat → ClassId) (a : Nat → Nat) (μ : Mem) (x1 : Int32) (x2 : Int32) (r : Int32) (hF : F_P_strokesFor μ x1 x2 = some r) : MetI l y_P_strokesFor b_P_strokesFor 6 (some .int) { frames := 4, cells := 0, slots := 0, locals := 90 } D cs (AC a) (WC a cs μ) [.ref (a 10), .int x1, .int x2] r (WC a cs μ) := by
  refine met_of rfl (by decide +kernel) (Nat.le_of_ble_eq_true rfl) (fun p e s m below meth c C hK hr hlk => ?_)
  unfold F_P_strokesFor at hF
  show G p l e { frames := 4, cells := 0, slots := 0, locals := 90 } s m _ below meth c _ D (AC a) 6 (WC a cs μ) 0 [(0, .ref (a 10)), (1, .int x1), (2, .int x2)] []
  refine g_iconst (pc1 := 1) (v := (0 : Int32)) C d_P_strokesFor_0 rfl ic_0 ?_
  refine g_istore_n (pc1 := 2) (L1 := [(3, .int (0 : Int32)), (0, .ref (a 10)), (1, .int x1), (2, .int x2)]) C d_P_strokesFor_1 rfl rfl (by decide) rfl ?_
  refine g_iconst (pc1 := 3) (v := (0 : Int32)) C d_P_strokesFor_2 rfl ic_0 ?_
  refine g_istore (pc1 := 5) (L1 := [(4, .int (0 : Int32)), (3, .int (0 : Int32)), (0, .ref (a 10)), (1, .int x1), (2, .int x2)]) C d_P_strokesFor_3 rfl (by decide) rfl ?_
  exact g_sub [2, 3, 4, 1, 0] rfl (p_P_strokesFor_5 C hK hr hlk  x1 x2 (0 : Int32) (0 : Int32) hF)
-- TentPegs.strokes(III)I
set_option maxHeartbeats 4000000 in
set_option maxRecDepth 100000 in
theorem p_T_strokes_24 {p : Program} {l : Launch} {e : Env} {s : State} {m : MethodId} {args : Array Value} {below : List Frame} {meth : Method} {c : Code} {D : va_G} {cs : Nat → ClassId} {a : Nat → Nat} {r : Int32} {μ1 : Mem} (C : Cx p s m args c b_T_strokes 5 "TentPegs") (hK : va_K D classes (tys cs) s) (hr : meth.sig.returnType = (some .int)) (hlk : meth.locks = false)  (μ : Mem)  (hF : F_T_strokes_24  μ = some (r, μ1)) : G p l e { frames := 5, cells := 0, slots := 0, locals := 115 } s m args below meth c (MQ below (Qi (AC a) D (WC a cs μ1) r) args s 0 0 (AC a)) D (AC a) 5 (WC a cs μ) 24 [(0, .ref (a 0))] [] := by
  unfold F_T_strokes_24 at hF
  refine g_aload_n (pc1 := 25) C d_T_strokes_24 rfl rfl 0 rfl ?_
  refine g_bipush (pc1 := 27) (v := (-10 : Int32)) C d_T_strokes_25 rfl bp_m10 ?_
  obtain ⟨⟨r1, m1⟩, hm1, hF⟩ := bnd_some hF
  refine g_callVI (pc1 := 30) (ws1 := WC a cs m1) (As := [.int (-10 : Int32)]) (rest := []) (b := a 0) C hK 1 (c_T_bad l D cs a μ (-10 : Int32) r1 m1 hm1) s_T_bad kw_15 0 rfl rfl rfl ⟨Nat.le_of_ble_eq_true rfl, Nat.le_of_ble_eq_true rfl⟩ ⟨rfl, rfl⟩ d_T_strokes_27 rfl rfl (Nat.le_of_ble_eq_true rfl) ?_
  exact g_iret C hr hlk d_T_strokes_30 (fst_of hF) (congrArg (WC a cs) (snd_of hF))
set_option maxHeartbeats 4000000 in
set_option maxRecDepth 100000 in
theorem p_T_strokes_31 {p : Program} {l : Launch} {e : Env} {s : State} {m : MethodId} {args : Array Value} {below : List Frame} {meth : Method} {c : Code} {D : va_G} {cs : Nat → ClassId} {a : Nat → Nat} {r : Int32} {μ1 : Mem} (C : Cx p s m args c b_T_strokes 5 "TentPegs") (hK : va_K D classes (tys cs) s) (hr : meth.sig.returnType = (some .int)) (hlk : meth.locks = false)  (μ : Mem) (x1 : Int32) (x2 : Int32) (x3 : Int32) (hF : F_T_strokes_31  μ x1 x2 x3 = some (r, μ1)) : G p l e { frames := 5, cells := 0, slots := 0, locals := 115 } s m args below meth c (MQ below (Qi (AC a) D (WC a cs μ1) r) args s 0 0 (AC a)) D (AC a) 5 (WC a cs μ) 31 [(0, .ref (a 0)), (1, .int x1), (2, .int x2), (3, .int x3)] [] := by
  unfold F_T_strokes_31 at hF
  refine g_aload_n (pc1 := 32) C d_T_strokes_31 rfl rfl 0 rfl ?_
  obtain ⟨m1, hm1, hF⟩ := bnd_some hF
  refine g_callVR (pc1 := 35) (ws1 := WC a cs m1) (As := []) (rest := []) (b := a 0) C hK 0 (c_T_asItIs l D cs a μ  m1 hm1) s_T_asItIs kw_81 0 rfl rfl rfl ⟨Nat.le_of_ble_eq_true rfl, Nat.le_of_ble_eq_true rfl⟩ ⟨rfl, rfl⟩ d_T_strokes_32 rfl rfl (Nat.le_of_ble_eq_true rfl) ?_
  refine g_pop (pc1 := 36) C d_T_strokes_35 rfl rfl ?_
  refine g_aload_n (pc1 := 37) C d_T_strokes_36 rfl rfl 0 rfl ?_
  refine get_WC_0_plans (pc1 := 40) C hK kw_107 d_T_strokes_37 rfl ?_
  refine g_iload_n (pc1 := 41) C d_T_strokes_40 rfl rfl 1 rfl ?_
  refine g_iload_n (pc1 := 42) C d_T_strokes_41 rfl rfl 2 rfl ?_
  obtain ⟨r2, hr2, hF⟩ := bnd_some hF
  refine g_callVI (pc1 := 45) (ws1 := WC a cs m1) (As := [.int x1, .int x2]) (rest := []) (b := a 10) C hK 2 (c_P_strokesFor l D cs a m1 x1 x2 r2 hr2) s_P_strokesFor kw_116 10 rfl rfl rfl ⟨Nat.le_of_ble_eq_true rfl, Nat.le_of_ble_eq_true rfl⟩ ⟨rfl, rfl⟩ d_T_strokes_42 rfl rfl (Nat.le_of_ble_eq_true rfl) ?_
  refine g_istore (pc1 := 47) (L1 := [(4, .int r2), (0, .ref (a 0)), (1, .int x1), (2, .int x2), (3, .int x3)]) C d_T_strokes_45 rfl (by decide) rfl ?_
  refine g_iload (pc1 := 49) C d_T_strokes_47 rfl 0 rfl ?_
  refine g_iconst (pc1 := 50) (v := (-1 : Int32)) C d_T_strokes_49 rfl ic_m1 ?_
  refine g_icmp_eq (pc1 := 53) C 58 d_T_strokes_50 rfl (by decide) (fun c1 => ?_) (fun c1 => ?_)
  · replace hF := ite_t hF c1
    refine g_iload (pc1 := 60) C d_T_strokes_58 rfl 0 rfl ?_
    exact g_iret C hr hlk d_T_strokes_60 (fst_of hF) (congrArg (WC a cs) (snd_of hF))
  · replace hF := ite_f hF c1
    refine g_iload_n (pc1 := 54) C d_T_strokes_53 rfl rfl 4 rfl ?_
    refine g_iconst (pc1 := 55) (v := (-1 : Int32)) C d_T_strokes_54 rfl ic_m1 ?_
    refine g_icmp_ne (pc1 := 58) C 61 d_T_strokes_55 rfl (by decide) (fun c1 => ?_) (fun c1 => ?_)
    · replace hF := ite_f hF c1
      refine g_aload_n (pc1 := 62) C d_T_strokes_61 rfl rfl 1 rfl ?_
      refine get_WC_0_plans (pc1 := 65) C hK kw_107 d_T_strokes_62 rfl ?_
      refine g_iload_n (pc1 := 66) C d_T_strokes_65 rfl rfl 4 rfl ?_
      refine g_aload_n (pc1 := 67) C d_T_strokes_66 rfl rfl 1 rfl ?_
      refine get_WC_0_field (pc1 := 70) C hK kw_12 d_T_strokes_67 rfl ?_
      refine get_WC_1_depths (pc1 := 73) C hK kw_89 d_T_strokes_70 rfl ?_
      refine g_iload_n (pc1 := 74) C d_T_strokes_73 rfl rfl 4 rfl ?_
      have hg := gd_some hF
      replace hF := hg.2
      refine g_iald (pc1 := 75) C hK 3 (f := (m1.1 3)) rfl hg.1 d_T_strokes_74 rfl ?_
      refine g_aload_n (pc1 := 76) C d_T_strokes_75 rfl rfl 1 rfl ?_
      refine get_WC_0_gale (pc1 := 79) C hK kw_51 d_T_strokes_76 rfl ?_
      refine g_iload_n (pc1 := 80) C d_T_strokes_79 rfl rfl 4 rfl ?_
      refine g_iload_n (pc1 := 81) C d_T_strokes_80 rfl rfl 2 rfl ?_
      refine g_iload_n (pc1 := 82) C d_T_strokes_81 rfl rfl 3 rfl ?_
      obtain ⟨r3, hr3, hF⟩ := bnd_some hF
      refine g_callVI (pc1 := 85) (ws1 := WC a cs m1) (As := [.int x3, .int x1, .int x2]) (rest := [.int ((m1.1 3) x3.toNatClampNeg), .int x3, .ref (a 10)]) (b := a 7) C hK 3 (c_G_pullOn l D cs a m1 x3 x1 x2 r3 hr3) s_G_pullOn kw_93 7 rfl rfl rfl ⟨Nat.le_of_ble_eq_true rfl, Nat.le_of_ble_eq_true rfl⟩ ⟨rfl, rfl⟩ d_T_strokes_82 rfl rfl (Nat.le_of_ble_eq_true rfl) ?_
      obtain ⟨r4, hr4, hF⟩ := bnd_some hF
      refine g_callVI (pc1 := 88) (ws1 := WC a cs m1) (As := [.int x3, .int ((m1.1 3) x3.toNatClampNeg), .int r3]) (rest := []) (b := a 10) C hK 3 (c_P_deepEnough l D cs a m1 x3 ((m1.1 3) x3.toNatClampNeg) r3 r4 hr4) s_P_deepEnough kw_117 10 rfl rfl rfl ⟨Nat.le_of_ble_eq_true rfl, Nat.le_of_ble_eq_true rfl⟩ ⟨rfl, rfl⟩ d_T_strokes_85 rfl rfl (Nat.le_of_ble_eq_true rfl) ?_
      exact g_iret C hr hlk d_T_strokes_88 (fst_of hF) (congrArg (WC a cs) (snd_of hF))
    · replace hF := ite_t hF c1
      refine g_iload (pc1 := 60) C d_T_strokes_58 rfl 0 rfl ?_
      exact g_iret C hr hlk d_T_strokes_60 (fst_of hF) (congrArg (WC a cs) (snd_of hF))
set_option maxHeartbeats 4000000 in
set_option maxRecDepth 100000 in
theorem c_T_strokes (l : Launch) (D : va_G) (cs : Nat → ClassId) (a : Nat → Nat) (μ : Mem) (x1 : Int32) (x2 : Int32) (x3 : Int32) (r : Int32) (μ1 : Mem) (hF : F_T_strokes μ x1 x2 x3 = some (r, μ1)) : MetI l y_T_strokes b_T_strokes 5 (some .int) { frames := 5, cells := 0, slots := 0, locals := 115 } D cs (AC a) (WC a cs μ) [.ref (a 0), .int x1, .int x2, .int x3] r (WC a cs μ1) := by
  refine met_of rfl (by decide +kernel) (Nat.le_of_ble_eq_true rfl) (fun p e s m below meth c C hK hr hlk => ?_)
  unfold F_T_strokes at hF
  show G p l e { frames := 5, cells := 0, slots := 0, locals := 115 } s m _ below meth c _ D (AC a) 5 (WC a cs μ) 0 [(0, .ref (a 0)), (1, .int x1), (2, .int x2), (3, .int x3)] []
  refine g_iload_n (pc1 := 1) C d_T_strokes_0 rfl rfl 1 rfl ?_
  refine g_iload_n (pc1 := 2) C d_T_strokes_1 rfl rfl 2 rfl ?_
  obtain ⟨r1, hr1, hF⟩ := bnd_some hF
  refine g_callSI (pc1 := 5) (As := [.int x1, .int x2]) (rest := []) C 2 (c_T_isGust l x1 x2 r1 hr1) s_T_isGust kw_77 rfl ⟨Nat.le_of_ble_eq_true rfl, Nat.le_of_ble_eq_true rfl⟩ ⟨rfl, rfl⟩ d_T_strokes_2 rfl rfl (Nat.le_of_ble_eq_true rfl) ?_
  refine g_if_eq (pc1 := 8) C 24 d_T_strokes_5 rfl (by decide) (fun c1 => ?_) (fun c1 => ?_)
  · replace hF := ite_t hF c1
    exact g_sub [0] rfl (p_T_strokes_24 C hK hr hlk  μ hF)
  · replace hF := ite_f hF c1
    refine g_iload_n (pc1 := 9) C d_T_strokes_8 rfl rfl 3 rfl ?_
    refine g_iconst (pc1 := 10) (v := (-1 : Int32)) C d_T_strokes_9 rfl ic_m1 ?_
    refine g_icmp_eq (pc1 := 13) C 31 d_T_strokes_10 rfl (by decide) (fun c1 => ?_) (fun c1 => ?_)
    · replace hF := ite_t hF c1
      exact g_sub [0, 1, 2, 3] rfl (p_T_strokes_31 C hK hr hlk  μ x1 x2 x3 hF)
    · replace hF := ite_f hF c1
      refine g_aload_n (pc1 := 14) C d_T_strokes_13 rfl rfl 0 rfl ?_
      refine get_WC_0_field (pc1 := 17) C hK kw_12 d_T_strokes_14 rfl ?_
      refine g_iload_n (pc1 := 18) C d_T_strokes_17 rfl rfl 3 rfl ?_
      obtain ⟨r2, hr2, hF⟩ := bnd_some hF
      refine g_callFI (pc1 := 21) (ws1 := WC a cs μ) (As := [.int x3]) (rest := []) (b := a 1) C hK 1 (frR_1 a cs μ) (c_F_hasPeg l D cs (off 1 a) (sub 1 μ) x3 r2 hr2) s_F_hasPeg kw_85 1 rfl rfl rfl ⟨Nat.le_of_ble_eq_true rfl, Nat.le_of_ble_eq_true rfl⟩ ⟨rfl, rfl⟩ d_T_strokes_18 rfl rfl (Nat.le_of_ble_eq_true rfl) ?_
      refine g_if_ne (pc1 := 24) C 31 d_T_strokes_21 rfl (by decide) (fun c1 => ?_) (fun c1 => ?_)
      · replace hF := ite_f hF c1
        exact g_sub [0, 1, 2, 3] rfl (p_T_strokes_31 C hK hr hlk  μ x1 x2 x3 hF)
      · replace hF := ite_t hF c1
        exact g_sub [0] rfl (p_T_strokes_24 C hK hr hlk  μ hF)
-- TentPegs$Field.allChances()I
set_option maxHeartbeats 4000000 in
set_option maxRecDepth 100000 in
theorem p_F_allChances_4 {p : Program} {l : Launch} {e : Env} {s : State} {m : MethodId} {args : Array Value} {below : List Frame} {meth : Method} {c : Code} {D : va_G} {cs : Nat → ClassId} {a : Nat → Nat} {μ : Mem} {r : Int32} (C : Cx p s m args c b_F_allChances 3 "TentPegs$Field") (hK : va_K D classes (tys cs) s) (hr : meth.sig.returnType = (some .int)) (hlk : meth.locks = false)  : ∀ (x1 : Int32) (x2 : Int32), F_F_allChances_4  μ x1 x2 = some r → G p l e { frames := 0, cells := 0, slots := 0, locals := 0 } s m args below meth c (MQ below (Qi (AF a) D (WF a cs μ) r) args s 0 0 (AF a)) D (AF a) 3 (WF a cs μ) 4 [(0, .ref (a 0)), (1, .int x1), (2, .int x2)] [] := by
  refine iter_ind (fun (K4 : Mem → Int32 → Int32 → Option Int32) => ∀ (x1 : Int32) (x2 : Int32), K4 μ x1 x2 = some r → G p l e { frames := 0, cells := 0, slots := 0, locals := 0 } s m args below meth c (MQ below (Qi (AF a) D (WF a cs μ) r) args s 0 0 (AF a)) D (AF a) 3 (WF a cs μ) 4 [(0, .ref (a 0)), (1, .int x1), (2, .int x2)] []) ?_ ?_ NF
  · intro x1 x2 hF
    exact none_no hF
  · intro K4 hK4 x1 x2 hF
    unfold S_F_allChances_4 at hF
    refine g_iload_n (pc1 := 5) C d_F_allChances_4 rfl rfl 2 rfl ?_
    refine g_bipush (pc1 := 7) (v := (8 : Int32)) C d_F_allChances_5 rfl bp_8 ?_
    refine g_icmp_ge (pc1 := 10) C 25 d_F_allChances_7 rfl (by decide) (fun c1 => ?_) (fun c1 => ?_)
    · replace hF := ite_t hF c1
      refine g_iload_n (pc1 := 26) C d_F_allChances_25 rfl rfl 1 rfl ?_
      exact g_iret C hr hlk d_F_allChances_26 (Option.some.inj hF) rfl
    · replace hF := ite_f hF c1
      refine g_iload_n (pc1 := 11) C d_F_allChances_10 rfl rfl 1 rfl ?_
      refine g_aload_n (pc1 := 12) C d_F_allChances_11 rfl rfl 0 rfl ?_
      refine get_WF_0_chances (pc1 := 15) C hK kw_10 d_F_allChances_12 rfl ?_
      refine g_iload_n (pc1 := 16) C d_F_allChances_15 rfl rfl 2 rfl ?_
      have hg := gd_some hF
      replace hF := hg.2
      refine g_iald (pc1 := 17) C hK 4 (f := (μ.1 4)) rfl hg.1 d_F_allChances_16 rfl ?_
      refine g_iadd (pc1 := 18) C d_F_allChances_17 rfl ?_
      refine g_istore_n (pc1 := 19) (L1 := [(1, .int (x1 + ((μ.1 4) x2.toNatClampNeg))), (0, .ref (a 0)), (2, .int x2)]) C d_F_allChances_18 rfl rfl (by decide) rfl ?_
      refine g_iinc (pc1 := 22) (v := (x2 + (1 : Int32))) (L1 := [(2, .int (x2 + (1 : Int32))), (1, .int (x1 + ((μ.1 4) x2.toNatClampNeg))), (0, .ref (a 0))]) C d_F_allChances_19 rfl 2 rfl (by rw [ic_1]) (by decide) rfl ?_
      refine g_goto C 4 d_F_allChances_22 (by decide) ?_
      exact g_sub [2, 1, 0] rfl (hK4 (x1 + ((μ.1 4) x2.toNatClampNeg)) (x2 + (1 : Int32)) hF)
set_option maxHeartbeats 4000000 in
set_option maxRecDepth 100000 in
theorem c_F_allChances (l : Launch) (D : va_G) (cs : Nat → ClassId) (a : Nat → Nat) (μ : Mem)  (r : Int32) (hF : F_F_allChances μ = some r) : MetI l y_F_allChances b_F_allChances 3 (some .int) { frames := 0, cells := 0, slots := 0, locals := 0 } D cs (AF a) (WF a cs μ) [.ref (a 0)] r (WF a cs μ) := by
  refine met_of rfl (by decide +kernel) (Nat.le_of_ble_eq_true rfl) (fun p e s m below meth c C hK hr hlk => ?_)
  unfold F_F_allChances at hF
  show G p l e { frames := 0, cells := 0, slots := 0, locals := 0 } s m _ below meth c _ D (AF a) 3 (WF a cs μ) 0 [(0, .ref (a 0))] []
  refine g_iconst (pc1 := 1) (v := (0 : Int32)) C d_F_allChances_0 rfl ic_0 ?_
  refine g_istore_n (pc1 := 2) (L1 := [(1, .int (0 : Int32)), (0, .ref (a 0))]) C d_F_allChances_1 rfl rfl (by decide) rfl ?_
  refine g_iconst (pc1 := 3) (v := (0 : Int32)) C d_F_allChances_2 rfl ic_0 ?_
  refine g_istore_n (pc1 := 4) (L1 := [(2, .int (0 : Int32)), (1, .int (0 : Int32)), (0, .ref (a 0))]) C d_F_allChances_3 rfl rfl (by decide) rfl ?_
  exact g_sub [2, 1, 0] rfl (p_F_allChances_4 C hK hr hlk  (0 : Int32) (0 : Int32) hF)
-- TentPegs$Gale.takesNone(II)Z
set_option maxHeartbeats 4000000 in
set_option maxRecDepth 100000 in
theorem p_G_takesNone_2 {p : Program} {l : Launch} {e : Env} {s : State} {m : MethodId} {args : Array Value} {below : List Frame} {meth : Method} {c : Code} {D : va_G} {cs : Nat → ClassId} {a : Nat → Nat} {μ : Mem} {r : Int32} (C : Cx p s m args c b_G_takesNone 4 "TentPegs$Gale") (hK : va_K D classes (tys cs) s) (hr : meth.sig.returnType = (some .boolean)) (hlk : meth.locks = false)  : ∀ (x1 : Int32) (x2 : Int32) (x3 : Int32), F_G_takesNone_2  μ x1 x2 x3 = some r → G p l e { frames := 4, cells := 0, slots := 0, locals := 87 } s m args below meth c (MQ below (Qi (AC a) D (WC a cs μ) r) args s 0 0 (AC a)) D (AC a) 4 (WC a cs μ) 2 [(0, .ref (a 7)), (1, .int x1), (2, .int x2), (3, .int x3)] [] := by
  refine iter_ind (fun (K2 : Mem → Int32 → Int32 → Int32 → Option Int32) => ∀ (x1 : Int32) (x2 : Int32) (x3 : Int32), K2 μ x1 x2 x3 = some r → G p l e { frames := 4, cells := 0, slots := 0, locals := 87 } s m args below meth c (MQ below (Qi (AC a) D (WC a cs μ) r) args s 0 0 (AC a)) D (AC a) 4 (WC a cs μ) 2 [(0, .ref (a 7)), (1, .int x1), (2, .int x2), (3, .int x3)] []) ?_ ?_ NF
  · intro x1 x2 x3 hF
    exact none_no hF
  · intro K2 hK2 x1 x2 x3 hF
    unfold S_G_takesNone_2 at hF
    refine g_iload_n (pc1 := 3) C d_G_takesNone_2 rfl rfl 3 rfl ?_
    refine g_aload_n (pc1 := 4) C d_G_takesNone_3 rfl rfl 0 rfl ?_
    refine get_WC_7_field (pc1 := 7) C hK kw_44 d_G_takesNone_4 rfl ?_
    refine get_WC_1_pegs (pc1 := 10) C hK (v := (μ.1 1 0)) rfl kw_53 d_G_takesNone_7 rfl ?_
    refine g_icmp_ge (pc1 := 13) C 47 d_G_takesNone_10 rfl (by decide) (fun c1 => ?_) (fun c1 => ?_)
    · replace hF := ite_t hF c1
      refine g_iconst (pc1 := 48) (v := (1 : Int32)) C d_G_takesNone_47 rfl ic_1 ?_
      exact g_zret C hr hlk rfl d_G_takesNone_48 (Option.some.inj hF) rfl
    · replace hF := ite_f hF c1
      refine g_aload_n (pc1 := 14) C d_G_takesNone_13 rfl rfl 0 rfl ?_
      refine get_WC_7_standing (pc1 := 17) C hK (v := (μ.1 7 4)) rfl kw_46 d_G_takesNone_14 rfl ?_
      refine g_iload_n (pc1 := 18) C d_G_takesNone_17 rfl rfl 3 rfl ?_
      obtain ⟨r1, hr1, hF⟩ := bnd_some hF
      refine g_callNI (pc1 := 21) (As := [.int (μ.1 7 4), .int x3]) (rest := []) C 2 (c_T_has l (μ.1 7 4) x3 r1 hr1) s_T_has 8 rfl rfl ⟨Nat.le_of_ble_eq_true rfl, Nat.le_of_ble_eq_true rfl⟩ ⟨rfl, rfl⟩ d_G_takesNone_18 rfl rfl (Nat.le_of_ble_eq_true rfl) ?_
      refine g_if_eq (pc1 := 24) C 41 d_G_takesNone_21 rfl (by decide) (fun c1 => ?_) (fun c1 => ?_)
      · replace hF := ite_t hF c1
        refine g_iinc (pc1 := 44) (v := (x3 + (1 : Int32))) (L1 := [(3, .int (x3 + (1 : Int32))), (0, .ref (a 7)), (1, .int x1), (2, .int x2)]) C d_G_takesNone_41 rfl 3 rfl (by rw [ic_1]) (by decide) rfl ?_
        refine g_goto C 2 d_G_takesNone_44 (by decide) ?_
        exact g_sub [1, 2, 3, 0] rfl (hK2 x1 x2 (x3 + (1 : Int32)) hF)
      · replace hF := ite_f hF c1
        refine g_aload_n (pc1 := 25) C d_G_takesNone_24 rfl rfl 0 rfl ?_
        refine g_iload_n (pc1 := 26) C d_G_takesNone_25 rfl rfl 3 rfl ?_
        refine g_iload_n (pc1 := 27) C d_G_takesNone_26 rfl rfl 1 rfl ?_
        refine g_iload_n (pc1 := 28) C d_G_takesNone_27 rfl rfl 2 rfl ?_
        obtain ⟨r2, hr2, hF⟩ := bnd_some hF
        refine g_callVI (pc1 := 31) (ws1 := WC a cs μ) (As := [.int x3, .int x1, .int x2]) (rest := []) (b := a 7) C hK 3 (c_G_pullOn l D cs a μ x3 x1 x2 r2 hr2) s_G_pullOn kw_73 7 rfl rfl rfl ⟨Nat.le_of_ble_eq_true rfl, Nat.le_of_ble_eq_true rfl⟩ ⟨rfl, rfl⟩ d_G_takesNone_28 rfl rfl (Nat.le_of_ble_eq_true rfl) ?_
        refine g_aload_n (pc1 := 32) C d_G_takesNone_31 rfl rfl 0 rfl ?_
        refine g_iload_n (pc1 := 33) C d_G_takesNone_32 rfl rfl 3 rfl ?_
        obtain ⟨r3, hr3, hF⟩ := bnd_some hF
        refine g_callVI (pc1 := 36) (ws1 := WC a cs μ) (As := [.int x3]) (rest := [.int r2]) (b := a 7) C hK 1 (c_G_holds l D cs a μ x3 r3 hr3) s_G_holds kw_69 7 rfl rfl rfl ⟨Nat.le_of_ble_eq_true rfl, Nat.le_of_ble_eq_true rfl⟩ ⟨rfl, rfl⟩ d_G_takesNone_33 rfl rfl (Nat.le_of_ble_eq_true rfl) ?_
        refine g_icmp_le (pc1 := 39) C 41 d_G_takesNone_36 rfl (by decide) (fun c1 => ?_) (fun c1 => ?_)
        · replace hF := ite_t hF c1
          refine g_iinc (pc1 := 44) (v := (x3 + (1 : Int32))) (L1 := [(3, .int (x3 + (1 : Int32))), (0, .ref (a 7)), (1, .int x1), (2, .int x2)]) C d_G_takesNone_41 rfl 3 rfl (by rw [ic_1]) (by decide) rfl ?_
          refine g_goto C 2 d_G_takesNone_44 (by decide) ?_
          exact g_sub [1, 2, 3, 0] rfl (hK2 x1 x2 (x3 + (1 : Int32)) hF)
        · replace hF := ite_f hF c1
          refine g_iconst (pc1 := 40) (v := (0 : Int32)) C d_G_takesNone_39 rfl ic_0 ?_
          exact g_zret C hr hlk rfl d_G_takesNone_40 (Option.some.inj hF) rfl
set_option maxHeartbeats 4000000 in
set_option maxRecDepth 100000 in
theorem c_G_takesNone (l : Launch) (D : va_G) (cs : Nat → ClassId) (a : Nat → Nat) (μ : Mem) (x1 : Int32) (x2 : Int32) (r : Int32) (hF : F_G_takesNone μ x1 x2 = some r) : MetI l y_G_takesNone b_G_takesNone 4 (some .boolean) { frames := 4, cells := 0, slots := 0, locals := 87 } D cs (AC a) (WC a cs μ) [.ref (a 7), .int x1, .int x2] r (WC a cs μ) := by
  refine met_of rfl (by decide +kernel) (Nat.le_of_ble_eq_true rfl) (fun p e s m below meth c C hK hr hlk => ?_)
  unfold F_G_takesNone at hF
  show G p l e { frames := 4, cells := 0, slots := 0, locals := 87 } s m _ below meth c _ D (AC a) 4 (WC a cs μ) 0 [(0, .ref (a 7)), (1, .int x1), (2, .int x2)] []
  refine g_iconst (pc1 := 1) (v := (0 : Int32)) C d_G_takesNone_0 rfl ic_0 ?_
  refine g_istore_n (pc1 := 2) (L1 := [(3, .int (0 : Int32)), (0, .ref (a 7)), (1, .int x1), (2, .int x2)]) C d_G_takesNone_1 rfl rfl (by decide) rfl ?_
  exact g_sub [1, 2, 3, 0] rfl (p_G_takesNone_2 C hK hr hlk  x1 x2 (0 : Int32) hF)
-- TentPegs$Gale.harmless(I)I
set_option maxHeartbeats 4000000 in
set_option maxRecDepth 100000 in
theorem p_G_harmless_4 {p : Program} {l : Launch} {e : Env} {s : State} {m : MethodId} {args : Array Value} {below : List Frame} {meth : Method} {c : Code} {D : va_G} {cs : Nat → ClassId} {a : Nat → Nat} {μ : Mem} {r : Int32} (C : Cx p s m args c b_G_harmless 4 "TentPegs$Gale") (hK : va_K D classes (tys cs) s) (hr : meth.sig.returnType = (some .int)) (hlk : meth.locks = false)  : ∀ (x1 : Int32) (x2 : Int32) (x3 : Int32), F_G_harmless_4  μ x1 x2 x3 = some r → G p l e { frames := 5, cells := 0, slots := 0, locals := 110 } s m args below meth c (MQ below (Qi (AC a) D (WC a cs μ) r) args s 0 0 (AC a)) D (AC a) 4 (WC a cs μ) 4 [(0, .ref (a 7)), (1, .int x1), (2, .int x2), (3, .int x3)] [] := by
  refine iter_ind (fun (K4 : Mem → Int32 → Int32 → Int32 → Option Int32) => ∀ (x1 : Int32) (x2 : Int32) (x3 : Int32), K4 μ x1 x2 x3 = some r → G p l e { frames := 5, cells := 0, slots := 0, locals := 110 } s m args below meth c (MQ below (Qi (AC a) D (WC a cs μ) r) args s 0 0 (AC a)) D (AC a) 4 (WC a cs μ) 4 [(0, .ref (a 7)), (1, .int x1), (2, .int x2), (3, .int x3)] []) ?_ ?_ NF
  · intro x1 x2 x3 hF
    exact none_no hF
  · intro K4 hK4 x1 x2 x3 hF
    unfold S_G_harmless_4 at hF
    refine g_iload_n (pc1 := 5) C d_G_harmless_4 rfl rfl 3 rfl ?_
    refine g_bipush (pc1 := 7) (v := (8 : Int32)) C d_G_harmless_5 rfl bp_8 ?_
    refine g_icmp_ge (pc1 := 10) C 37 d_G_harmless_7 rfl (by decide) (fun c1 => ?_) (fun c1 => ?_)
    · replace hF := ite_t hF c1
      refine g_iload_n (pc1 := 38) C d_G_harmless_37 rfl rfl 2 rfl ?_
      exact g_iret C hr hlk d_G_harmless_38 (Option.some.inj hF) rfl
    · replace hF := ite_f hF c1
      refine g_aload_n (pc1 := 11) C d_G_harmless_10 rfl rfl 0 rfl ?_
      refine g_iload_n (pc1 := 12) C d_G_harmless_11 rfl rfl 3 rfl ?_
      refine g_iload_n (pc1 := 13) C d_G_harmless_12 rfl rfl 1 rfl ?_
      obtain ⟨r1, hr1, hF⟩ := bnd_some hF
      refine g_callVI (pc1 := 16) (ws1 := WC a cs μ) (As := [.int x3, .int x1]) (rest := []) (b := a 7) C hK 2 (c_G_takesNone l D cs a μ x3 x1 r1 hr1) s_G_takesNone kw_118 7 rfl rfl rfl ⟨Nat.le_of_ble_eq_true rfl, Nat.le_of_ble_eq_true rfl⟩ ⟨rfl, rfl⟩ d_G_harmless_13 rfl rfl (Nat.le_of_ble_eq_true rfl) ?_
      refine g_if_eq (pc1 := 19) C 31 d_G_harmless_16 rfl (by decide) (fun c1 => ?_) (fun c1 => ?_)
      · replace hF := ite_t hF c1
        refine g_iinc (pc1 := 34) (v := (x3 + (1 : Int32))) (L1 := [(3, .int (x3 + (1 : Int32))), (0, .ref (a 7)), (1, .int x1), (2, .int x2)]) C d_G_harmless_31 rfl 3 rfl (by rw [ic_1]) (by decide) rfl ?_
        refine g_goto C 4 d_G_harmless_34 (by decide) ?_
        exact g_sub [1, 2, 3, 0] rfl (hK4 x1 x2 (x3 + (1 : Int32)) hF)
      · replace hF := ite_f hF c1
        refine g_iload_n (pc1 := 20) C d_G_harmless_19 rfl rfl 2 rfl ?_
        refine g_aload_n (pc1 := 21) C d_G_harmless_20 rfl rfl 0 rfl ?_
        refine get_WC_7_field (pc1 := 24) C hK kw_44 d_G_harmless_21 rfl ?_
        refine get_WC_1_chances (pc1 := 27) C hK kw_119 d_G_harmless_24 rfl ?_
        refine g_iload_n (pc1 := 28) C d_G_harmless_27 rfl rfl 3 rfl ?_
        have hg := gd_some hF
        replace hF := hg.2
        refine g_iald (pc1 := 29) C hK 5 (f := (μ.1 5)) rfl hg.1 d_G_harmless_28 rfl ?_
        refine g_iadd (pc1 := 30) C d_G_harmless_29 rfl ?_
        refine g_istore_n (pc1 := 31) (L1 := [(2, .int (x2 + ((μ.1 5) x3.toNatClampNeg))), (0, .ref (a 7)), (1, .int x1), (3, .int x3)]) C d_G_harmless_30 rfl rfl (by decide) rfl ?_
        refine g_iinc (pc1 := 34) (v := (x3 + (1 : Int32))) (L1 := [(3, .int (x3 + (1 : Int32))), (2, .int (x2 + ((μ.1 5) x3.toNatClampNeg))), (0, .ref (a 7)), (1, .int x1)]) C d_G_harmless_31 rfl 3 rfl (by rw [ic_1]) (by decide) rfl ?_
        refine g_goto C 4 d_G_harmless_34 (by decide) ?_
        exact g_sub [2, 3, 1, 0] rfl (hK4 x1 (x2 + ((μ.1 5) x3.toNatClampNeg)) (x3 + (1 : Int32)) hF)
set_option maxHeartbeats 4000000 in
set_option maxRecDepth 100000 in
theorem c_G_harmless (l : Launch) (D : va_G) (cs : Nat → ClassId) (a : Nat → Nat) (μ : Mem) (x1 : Int32) (r : Int32) (hF : F_G_harmless μ x1 = some r) : MetI l y_G_harmless b_G_harmless 4 (some .int) { frames := 5, cells := 0, slots := 0, locals := 110 } D cs (AC a) (WC a cs μ) [.ref (a 7), .int x1] r (WC a cs μ) := by
  refine met_of rfl (by decide +kernel) (Nat.le_of_ble_eq_true rfl) (fun p e s m below meth c C hK hr hlk => ?_)
  unfold F_G_harmless at hF
  show G p l e { frames := 5, cells := 0, slots := 0, locals := 110 } s m _ below meth c _ D (AC a) 4 (WC a cs μ) 0 [(0, .ref (a 7)), (1, .int x1)] []
  refine g_iconst (pc1 := 1) (v := (0 : Int32)) C d_G_harmless_0 rfl ic_0 ?_
  refine g_istore_n (pc1 := 2) (L1 := [(2, .int (0 : Int32)), (0, .ref (a 7)), (1, .int x1)]) C d_G_harmless_1 rfl rfl (by decide) rfl ?_
  refine g_iconst (pc1 := 3) (v := (0 : Int32)) C d_G_harmless_2 rfl ic_0 ?_
  refine g_istore_n (pc1 := 4) (L1 := [(3, .int (0 : Int32)), (2, .int (0 : Int32)), (0, .ref (a 7)), (1, .int x1)]) C d_G_harmless_3 rfl rfl (by decide) rfl ?_
  exact g_sub [2, 3, 1, 0] rfl (p_G_harmless_4 C hK hr hlk  x1 (0 : Int32) (0 : Int32) hF)
-- TentPegs.keepFraction(II)V
set_option maxHeartbeats 4000000 in
set_option maxRecDepth 100000 in
theorem p_T_keepFraction_12 {p : Program} {l : Launch} {e : Env} {s : State} {m : MethodId} {args : Array Value} {below : List Frame} {meth : Method} {c : Code} {D : va_G} {cs : Nat → ClassId} {a : Nat → Nat} {μ1 : Mem} (C : Cx p s m args c b_T_keepFraction 4 "TentPegs") (hK : va_K D classes (tys cs) s) (hr : meth.sig.returnType = none) (hlk : meth.locks = false)  : ∀ (μ : Mem) (x1 : Int32) (x2 : Int32) (x3 : Int32), F_T_keepFraction_12  μ x1 x2 x3 = some μ1 → G p l e { frames := 0, cells := 0, slots := 0, locals := 0 } s m args below meth c (MQ below (Qv (AC a) D (WC a cs μ1)) args s 0 0 (AC a)) D (AC a) 4 (WC a cs μ) 12 [(0, .ref (a 0)), (1, .int x1), (2, .int x2), (3, .int x3)] [] := by
  refine iter_ind (fun (K12 : Mem → Int32 → Int32 → Int32 → Option Mem) => ∀ (μ : Mem) (x1 : Int32) (x2 : Int32) (x3 : Int32), K12 μ x1 x2 x3 = some μ1 → G p l e { frames := 0, cells := 0, slots := 0, locals := 0 } s m args below meth c (MQ below (Qv (AC a) D (WC a cs μ1)) args s 0 0 (AC a)) D (AC a) 4 (WC a cs μ) 12 [(0, .ref (a 0)), (1, .int x1), (2, .int x2), (3, .int x3)] []) ?_ ?_ NF
  · intro μ x1 x2 x3 hF
    exact none_no hF
  · intro K12 hK12 μ x1 x2 x3 hF
    unfold S_T_keepFraction_12 at hF
    refine g_iload_n (pc1 := 13) C d_T_keepFraction_12 rfl rfl 3 rfl ?_
    refine g_iconst (pc1 := 14) (v := (1 : Int32)) C d_T_keepFraction_13 rfl ic_1 ?_
    refine g_icmp_le (pc1 := 17) C 50 d_T_keepFraction_14 rfl (by decide) (fun c1 => ?_) (fun c1 => ?_)
    · replace hF := ite_t hF c1
      exact g_vret C hr hlk d_T_keepFraction_50 (congrArg (WC a cs) (Option.some.inj hF))
    · replace hF := ite_f hF c1
      refine g_iload_n (pc1 := 18) C d_T_keepFraction_17 rfl rfl 1 rfl ?_
      refine g_iload_n (pc1 := 19) C d_T_keepFraction_18 rfl rfl 3 rfl ?_
      by_cases h0 : x3 = 0
      · exact none_no (ite_t hF h0)
      replace hF := ite_f hF h0
      refine g_irem (pc1 := 20) C d_T_keepFraction_19 rfl h0 ?_
      refine g_if_ne (pc1 := 23) C 44 d_T_keepFraction_20 rfl (by decide) (fun c1 => ?_) (fun c1 => ?_)
      · replace hF := ite_f hF c1
        refine g_iinc (pc1 := 47) (v := (x3 + (-1 : Int32))) (L1 := [(3, .int (x3 + (-1 : Int32))), (0, .ref (a 0)), (1, .int x1), (2, .int x2)]) C d_T_keepFraction_44 rfl 3 rfl (by rw [ic_m1]) (by decide) rfl ?_
        refine g_goto C 12 d_T_keepFraction_47 (by decide) ?_
        exact g_sub [1, 2, 3, 0] rfl (hK12 μ x1 x2 (x3 + (-1 : Int32)) hF)
      · replace hF := ite_t hF c1
        refine g_iload_n (pc1 := 24) C d_T_keepFraction_23 rfl rfl 2 rfl ?_
        refine g_iload_n (pc1 := 25) C d_T_keepFraction_24 rfl rfl 3 rfl ?_
        by_cases h0 : x3 = 0
        · exact none_no (ite_t hF h0)
        replace hF := ite_f hF h0
        refine g_irem (pc1 := 26) C d_T_keepFraction_25 rfl h0 ?_
        refine g_if_ne (pc1 := 29) C 44 d_T_keepFraction_26 rfl (by decide) (fun c1 => ?_) (fun c1 => ?_)
        · replace hF := ite_f hF c1
          refine g_iinc (pc1 := 47) (v := (x3 + (-1 : Int32))) (L1 := [(3, .int (x3 + (-1 : Int32))), (0, .ref (a 0)), (1, .int x1), (2, .int x2)]) C d_T_keepFraction_44 rfl 3 rfl (by rw [ic_m1]) (by decide) rfl ?_
          refine g_goto C 12 d_T_keepFraction_47 (by decide) ?_
          exact g_sub [1, 2, 3, 0] rfl (hK12 μ x1 x2 (x3 + (-1 : Int32)) hF)
        · replace hF := ite_t hF c1
          refine g_aload_n (pc1 := 30) C d_T_keepFraction_29 rfl rfl 0 rfl ?_
          refine g_iload_n (pc1 := 31) C d_T_keepFraction_30 rfl rfl 1 rfl ?_
          refine g_iload_n (pc1 := 32) C d_T_keepFraction_31 rfl rfl 3 rfl ?_
          by_cases h0 : x3 = 0
          · exact none_no (ite_t hF h0)
          replace hF := ite_f hF h0
          refine g_idiv (pc1 := 33) C d_T_keepFraction_32 rfl h0 ?_
          refine put_WC_0_above (pc1 := 36) C hK kw_120 d_T_keepFraction_33 rfl ?_
          refine g_aload_n (pc1 := 37) C d_T_keepFraction_36 rfl rfl 0 rfl ?_
          refine g_iload_n (pc1 := 38) C d_T_keepFraction_37 rfl rfl 2 rfl ?_
          refine g_iload_n (pc1 := 39) C d_T_keepFraction_38 rfl rfl 3 rfl ?_
          by_cases h0 : x3 = 0
          · exact none_no (ite_t hF h0)
          replace hF := ite_f hF h0
          refine g_idiv (pc1 := 40) C d_T_keepFraction_39 rfl h0 ?_
          refine put_WC_0_below (pc1 := 43) C hK kw_121 d_T_keepFraction_40 rfl ?_
          exact g_vret C hr hlk d_T_keepFraction_43 (congrArg (WC a cs) (Option.some.inj hF))
set_option maxHeartbeats 4000000 in
set_option maxRecDepth 100000 in
theorem c_T_keepFraction (l : Launch) (D : va_G) (cs : Nat → ClassId) (a : Nat → Nat) (μ : Mem) (x1 : Int32) (x2 : Int32) (μ1 : Mem) (hF : F_T_keepFraction μ x1 x2 = some μ1) : MetV l y_T_keepFraction b_T_keepFraction 4 none { frames := 0, cells := 0, slots := 0, locals := 0 } D cs (AC a) (WC a cs μ) [.ref (a 0), .int x1, .int x2] (WC a cs μ1) := by
  refine met_of rfl (by decide +kernel) (Nat.le_of_ble_eq_true rfl) (fun p e s m below meth c C hK hr hlk => ?_)
  unfold F_T_keepFraction at hF
  show G p l e { frames := 0, cells := 0, slots := 0, locals := 0 } s m _ below meth c _ D (AC a) 4 (WC a cs μ) 0 [(0, .ref (a 0)), (1, .int x1), (2, .int x2)] []
  refine g_aload_n (pc1 := 1) C d_T_keepFraction_0 rfl rfl 0 rfl ?_
  refine g_iload_n (pc1 := 2) C d_T_keepFraction_1 rfl rfl 1 rfl ?_
  refine put_WC_0_above (pc1 := 5) C hK kw_120 d_T_keepFraction_2 rfl ?_
  refine g_aload_n (pc1 := 6) C d_T_keepFraction_5 rfl rfl 0 rfl ?_
  refine g_iload_n (pc1 := 7) C d_T_keepFraction_6 rfl rfl 2 rfl ?_
  refine put_WC_0_below (pc1 := 10) C hK kw_121 d_T_keepFraction_7 rfl ?_
  refine g_iload_n (pc1 := 11) C d_T_keepFraction_10 rfl rfl 2 rfl ?_
  refine g_istore_n (pc1 := 12) (L1 := [(3, .int x2), (0, .ref (a 0)), (1, .int x1), (2, .int x2)]) C d_T_keepFraction_11 rfl rfl (by decide) rfl ?_
  exact g_sub [1, 2, 3, 0] rfl (p_T_keepFraction_12 C hK hr hlk  (stI (stI μ 0 8 x1) 0 9 x2) x1 x2 x2 hF)
-- TentPegs.chance(I)I
set_option maxHeartbeats 4000000 in
set_option maxRecDepth 100000 in
theorem c_T_chance (l : Launch) (D : va_G) (cs : Nat → ClassId) (a : Nat → Nat) (μ : Mem) (x1 : Int32) (r : Int32) (μ1 : Mem) (hF : F_T_chance μ x1 = some (r, μ1)) : MetI l y_T_chance b_T_chance 3 (some .int) { frames := 6, cells := 0, slots := 0, locals := 133 } D cs (AC a) (WC a cs μ) [.ref (a 0), .int x1] r (WC a cs μ1) := by
  refine met_of rfl (by decide +kernel) (Nat.le_of_ble_eq_true rfl) (fun p e s m below meth c C hK hr hlk => ?_)
  unfold F_T_chance at hF
  show G p l e { frames := 6, cells := 0, slots := 0, locals := 133 } s m _ below meth c _ D (AC a) 3 (WC a cs μ) 0 [(0, .ref (a 0)), (1, .int x1)] []
  refine g_iload_n (pc1 := 1) C d_T_chance_0 rfl rfl 1 rfl ?_
  obtain ⟨r1, hr1, hF⟩ := bnd_some hF
  refine g_callSI (pc1 := 4) (As := [.int x1]) (rest := []) C 1 (c_T_isStrength l x1 r1 hr1) s_T_isStrength kw_34 rfl ⟨Nat.le_of_ble_eq_true rfl, Nat.le_of_ble_eq_true rfl⟩ ⟨rfl, rfl⟩ d_T_chance_1 rfl rfl (Nat.le_of_ble_eq_true rfl) ?_
  refine g_if_ne (pc1 := 7) C 14 d_T_chance_4 rfl (by decide) (fun c1 => ?_) (fun c1 => ?_)
  · replace hF := ite_f hF c1
    refine g_aload_n (pc1 := 15) C d_T_chance_14 rfl rfl 0 rfl ?_
    refine get_WC_0_field (pc1 := 18) C hK kw_12 d_T_chance_15 rfl ?_
    obtain ⟨r2, hr2, hF⟩ := bnd_some hF
    refine g_callFI (pc1 := 21) (ws1 := WC a cs μ) (As := []) (rest := []) (b := a 1) C hK 0 (frR_1 a cs μ) (c_F_allChances l D cs (off 1 a) (sub 1 μ)  r2 hr2) s_F_allChances kw_122 1 rfl rfl rfl ⟨Nat.le_of_ble_eq_true rfl, Nat.le_of_ble_eq_true rfl⟩ ⟨rfl, rfl⟩ d_T_chance_18 rfl rfl (Nat.le_of_ble_eq_true rfl) ?_
    refine g_istore_n (pc1 := 22) (L1 := [(2, .int r2), (0, .ref (a 0)), (1, .int x1)]) C d_T_chance_21 rfl rfl (by decide) rfl ?_
    refine g_iload_n (pc1 := 23) C d_T_chance_22 rfl rfl 0 rfl ?_
    refine g_if_ne (pc1 := 26) C 31 d_T_chance_23 rfl (by decide) (fun c1 => ?_) (fun c1 => ?_)
    · replace hF := ite_f hF c1
      refine g_aload_n (pc1 := 32) C d_T_chance_31 rfl rfl 1 rfl ?_
      refine g_aload_n (pc1 := 33) C d_T_chance_32 rfl rfl 1 rfl ?_
      obtain ⟨m3, hm3, hF⟩ := bnd_some hF
      refine g_callVR (pc1 := 36) (ws1 := WC a cs m3) (As := []) (rest := [.ref (a 0)]) (b := a 0) C hK 0 (c_T_asItIs l D cs a μ  m3 hm3) s_T_asItIs kw_81 0 rfl rfl rfl ⟨Nat.le_of_ble_eq_true rfl, Nat.le_of_ble_eq_true rfl⟩ ⟨rfl, rfl⟩ d_T_chance_33 rfl rfl (Nat.le_of_ble_eq_true rfl) ?_
      refine g_iload_n (pc1 := 37) C d_T_chance_36 rfl rfl 2 rfl ?_
      obtain ⟨r4, hr4, hF⟩ := bnd_some hF
      refine g_callVI (pc1 := 40) (ws1 := WC a cs m3) (As := [.int x1]) (rest := [.ref (a 0)]) (b := a 7) C hK 1 (c_G_harmless l D cs a m3 x1 r4 hr4) s_G_harmless kw_123 7 rfl rfl rfl ⟨Nat.le_of_ble_eq_true rfl, Nat.le_of_ble_eq_true rfl⟩ ⟨rfl, rfl⟩ d_T_chance_37 rfl rfl (Nat.le_of_ble_eq_true rfl) ?_
      refine g_iload_n (pc1 := 41) C d_T_chance_40 rfl rfl 0 rfl ?_
      obtain ⟨m5, hm5, hF⟩ := bnd_some hF
      refine g_callVV (pc1 := 44) (ws1 := WC a cs m5) (As := [.int r4, .int r2]) (rest := []) (b := a 0) C hK 2 (c_T_keepFraction l D cs a m3 r4 r2 m5 hm5) s_T_keepFraction kw_124 0 rfl rfl rfl ⟨Nat.le_of_ble_eq_true rfl, Nat.le_of_ble_eq_true rfl⟩ ⟨rfl, rfl⟩ d_T_chance_41 rfl rfl (Nat.le_of_ble_eq_true rfl) ?_
      refine g_iconst (pc1 := 45) (v := (1 : Int32)) C d_T_chance_44 rfl ic_1 ?_
      exact g_iret C hr hlk d_T_chance_45 (fst_of hF) (congrArg (WC a cs) (snd_of hF))
    · replace hF := ite_t hF c1
      refine g_aload_n (pc1 := 27) C d_T_chance_26 rfl rfl 1 rfl ?_
      obtain ⟨⟨r6, m6⟩, hm6, hF⟩ := bnd_some hF
      refine g_callVI (pc1 := 30) (ws1 := WC a cs m6) (As := []) (rest := []) (b := a 0) C hK 0 (c_T_no l D cs a μ  r6 m6 hm6) s_T_no kw_27 0 rfl rfl rfl ⟨Nat.le_of_ble_eq_true rfl, Nat.le_of_ble_eq_true rfl⟩ ⟨rfl, rfl⟩ d_T_chance_27 rfl rfl (Nat.le_of_ble_eq_true rfl) ?_
      exact g_iret C hr hlk d_T_chance_30 (fst_of hF) (congrArg (WC a cs) (snd_of hF))
  · replace hF := ite_t hF c1
    refine g_aload_n (pc1 := 8) C d_T_chance_7 rfl rfl 0 rfl ?_
    refine g_bipush (pc1 := 10) (v := (-2 : Int32)) C d_T_chance_8 rfl bp_m2 ?_
    obtain ⟨⟨r7, m7⟩, hm7, hF⟩ := bnd_some hF
    refine g_callVI (pc1 := 13) (ws1 := WC a cs m7) (As := [.int (-2 : Int32)]) (rest := []) (b := a 0) C hK 1 (c_T_bad l D cs a μ (-2 : Int32) r7 m7 hm7) s_T_bad kw_15 0 rfl rfl rfl ⟨Nat.le_of_ble_eq_true rfl, Nat.le_of_ble_eq_true rfl⟩ ⟨rfl, rfl⟩ d_T_chance_10 rfl rfl (Nat.le_of_ble_eq_true rfl) ?_
    exact g_iret C hr hlk d_T_chance_13 (fst_of hF) (congrArg (WC a cs) (snd_of hF))
-- TentPegs$Plans.bestTurn(I)I
set_option maxHeartbeats 4000000 in
set_option maxRecDepth 100000 in
theorem p_P_bestTurn_7 {p : Program} {l : Launch} {e : Env} {s : State} {m : MethodId} {args : Array Value} {below : List Frame} {meth : Method} {c : Code} {D : va_G} {cs : Nat → ClassId} {a : Nat → Nat} {r : Int32} {μ1 : Mem} (C : Cx p s m args c b_P_bestTurn 6 "TentPegs$Plans") (hK : va_K D classes (tys cs) s) (hr : meth.sig.returnType = (some .int)) (hlk : meth.locks = false)  : ∀ (μ : Mem) (x1 : Int32) (x2 : Int32) (x3 : Int32) (x4 : Int32), F_P_bestTurn_7  μ x1 x2 x3 x4 = some (r, μ1) → G p l e { frames := 6, cells := 0, slots := 0, locals := 133 } s m args below meth c (MQ below (Qi (AC a) D (WC a cs μ1) r) args s 0 0 (AC a)) D (AC a) 6 (WC a cs μ) 7 [(0, .ref (a 10)), (1, .int x1), (2, .int x2), (3, .int x3), (4, .int x4)] [] := by
  refine iter_ind (fun (K7 : Mem → Int32 → Int32 → Int32 → Int32 → Option (Int32 × Mem)) => ∀ (μ : Mem) (x1 : Int32) (x2 : Int32) (x3 : Int32) (x4 : Int32), K7 μ x1 x2 x3 x4 = some (r, μ1) → G p l e { frames := 6, cells := 0, slots := 0, locals := 133 } s m args below meth c (MQ below (Qi (AC a) D (WC a cs μ1) r) args s 0 0 (AC a)) D (AC a) 6 (WC a cs μ) 7 [(0, .ref (a 10)), (1, .int x1), (2, .int x2), (3, .int x3), (4, .int x4)] []) ?_ ?_ NF
  · intro μ x1 x2 x3 x4 hF
    exact none_no hF
  · intro K7 hK7 μ x1 x2 x3 x4 hF
    unfold S_P_bestTurn_7 at hF
    refine g_iload (pc1 := 9) C d_P_bestTurn_7 rfl 4 rfl ?_
    refine g_bipush (pc1 := 11) (v := (8 : Int32)) C d_P_bestTurn_9 rfl bp_8 ?_
    refine g_icmp_ge (pc1 := 14) C 51 d_P_bestTurn_11 rfl (by decide) (fun c1 => ?_) (fun c1 => ?_)
    · replace hF := ite_t hF c1
      refine g_iload_n (pc1 := 52) C d_P_bestTurn_51 rfl rfl 2 rfl ?_
      exact g_iret C hr hlk d_P_bestTurn_52 (fst_of hF) (congrArg (WC a cs) (snd_of hF))
    · replace hF := ite_f hF c1
      refine g_aload_n (pc1 := 15) C d_P_bestTurn_14 rfl rfl 0 rfl ?_
      refine get_WC_10_gale (pc1 := 18) C hK kw_102 d_P_bestTurn_15 rfl ?_
      refine g_iload (pc1 := 20) C d_P_bestTurn_18 rfl 4 rfl ?_
      refine put_WC_7_turned (pc1 := 23) C hK kw_125 d_P_bestTurn_20 rfl ?_
      refine g_aload_n (pc1 := 24) C d_P_bestTurn_23 rfl rfl 0 rfl ?_
      refine get_WC_10_gale (pc1 := 27) C hK kw_102 d_P_bestTurn_24 rfl ?_
      refine g_iload_n (pc1 := 28) C d_P_bestTurn_27 rfl rfl 1 rfl ?_
      obtain ⟨r1, hr1, hF⟩ := bnd_some hF
      refine g_callVI (pc1 := 31) (ws1 := WC a cs (stI μ 7 6 x4)) (As := [.int x1]) (rest := []) (b := a 7) C hK 1 (c_G_harmless l D cs a (stI μ 7 6 x4) x1 r1 hr1) s_G_harmless kw_126 7 rfl rfl rfl ⟨Nat.le_of_ble_eq_true rfl, Nat.le_of_ble_eq_true rfl⟩ ⟨rfl, rfl⟩ d_P_bestTurn_28 rfl rfl (Nat.le_of_ble_eq_true rfl) ?_
      refine g_istore (pc1 := 33) (L1 := [(5, .int r1), (0, .ref (a 10)), (1, .int x1), (2, .int x2), (3, .int x3), (4, .int x4)]) C d_P_bestTurn_31 rfl (by decide) rfl ?_
      refine g_iload (pc1 := 35) C d_P_bestTurn_33 rfl 0 rfl ?_
      refine g_iload_n (pc1 := 36) C d_P_bestTurn_35 rfl rfl 4 rfl ?_
      refine g_icmp_le (pc1 := 39) C 45 d_P_bestTurn_36 rfl (by decide) (fun c1 => ?_) (fun c1 => ?_)
      · replace hF := ite_t hF c1
        refine g_iinc (pc1 := 48) (v := (x4 + (1 : Int32))) (L1 := [(4, .int (x4 + (1 : Int32))), (5, .int r1), (0, .ref (a 10)), (1, .int x1), (2, .int x2), (3, .int x3)]) C d_P_bestTurn_45 rfl 5 rfl (by rw [ic_1]) (by decide) rfl ?_
        refine g_goto C 7 d_P_bestTurn_48 (by decide) ?_
        exact g_sub [2, 3, 4, 5, 0] rfl (hK7 (stI μ 7 6 x4) x1 x2 x3 (x4 + (1 : Int32)) hF)
      · replace hF := ite_f hF c1
        refine g_iload (pc1 := 41) C d_P_bestTurn_39 rfl 5 rfl ?_
        refine g_istore_n (pc1 := 42) (L1 := [(2, .int x4), (5, .int r1), (0, .ref (a 10)), (1, .int x1), (3, .int x3), (4, .int x4)]) C d_P_bestTurn_41 rfl rfl (by decide) rfl ?_
        refine g_iload (pc1 := 44) C d_P_bestTurn_42 rfl 1 rfl ?_
        refine g_istore_n (pc1 := 45) (L1 := [(3, .int r1), (2, .int x4), (5, .int r1), (0, .ref (a 10)), (1, .int x1), (4, .int x4)]) C d_P_bestTurn_44 rfl rfl (by decide) rfl ?_
        refine g_iinc (pc1 := 48) (v := (x4 + (1 : Int32))) (L1 := [(4, .int (x4 + (1 : Int32))), (3, .int r1), (2, .int x4), (5, .int r1), (0, .ref (a 10)), (1, .int x1)]) C d_P_bestTurn_45 rfl 5 rfl (by rw [ic_1]) (by decide) rfl ?_
        refine g_goto C 7 d_P_bestTurn_48 (by decide) ?_
        exact g_sub [4, 5, 2, 1, 0] rfl (hK7 (stI μ 7 6 x4) x1 x4 r1 (x4 + (1 : Int32)) hF)
set_option maxHeartbeats 4000000 in
set_option maxRecDepth 100000 in
theorem c_P_bestTurn (l : Launch) (D : va_G) (cs : Nat → ClassId) (a : Nat → Nat) (μ : Mem) (x1 : Int32) (r : Int32) (μ1 : Mem) (hF : F_P_bestTurn μ x1 = some (r, μ1)) : MetI l y_P_bestTurn b_P_bestTurn 6 (some .int) { frames := 6, cells := 0, slots := 0, locals := 133 } D cs (AC a) (WC a cs μ) [.ref (a 10), .int x1] r (WC a cs μ1) := by
  refine met_of rfl (by decide +kernel) (Nat.le_of_ble_eq_true rfl) (fun p e s m below meth c C hK hr hlk => ?_)
  unfold F_P_bestTurn at hF
  show G p l e { frames := 6, cells := 0, slots := 0, locals := 133 } s m _ below meth c _ D (AC a) 6 (WC a cs μ) 0 [(0, .ref (a 10)), (1, .int x1)] []
  refine g_iconst (pc1 := 1) (v := (0 : Int32)) C d_P_bestTurn_0 rfl ic_0 ?_
  refine g_istore_n (pc1 := 2) (L1 := [(2, .int (0 : Int32)), (0, .ref (a 10)), (1, .int x1)]) C d_P_bestTurn_1 rfl rfl (by decide) rfl ?_
  refine g_iconst (pc1 := 3) (v := (-1 : Int32)) C d_P_bestTurn_2 rfl ic_m1 ?_
  refine g_istore_n (pc1 := 4) (L1 := [(3, .int (-1 : Int32)), (2, .int (0 : Int32)), (0, .ref (a 10)), (1, .int x1)]) C d_P_bestTurn_3 rfl rfl (by decide) rfl ?_
  refine g_iconst (pc1 := 5) (v := (0 : Int32)) C d_P_bestTurn_4 rfl ic_0 ?_
  refine g_istore (pc1 := 7) (L1 := [(4, .int (0 : Int32)), (3, .int (-1 : Int32)), (2, .int (0 : Int32)), (0, .ref (a 10)), (1, .int x1)]) C d_P_bestTurn_5 rfl (by decide) rfl ?_
  exact g_sub [3, 4, 2, 1, 0] rfl (p_P_bestTurn_7 C hK hr hlk  μ x1 (0 : Int32) (-1 : Int32) (0 : Int32) hF)
-- TentPegs.turn(I)I
set_option maxHeartbeats 4000000 in
set_option maxRecDepth 100000 in
theorem c_T_turn (l : Launch) (D : va_G) (cs : Nat → ClassId) (a : Nat → Nat) (μ : Mem) (x1 : Int32) (r : Int32) (μ1 : Mem) (hF : F_T_turn μ x1 = some (r, μ1)) : MetI l y_T_turn b_T_turn 4 (some .int) { frames := 7, cells := 0, slots := 0, locals := 158 } D cs (AC a) (WC a cs μ) [.ref (a 0), .int x1] r (WC a cs μ1) := by
  refine met_of rfl (by decide +kernel) (Nat.le_of_ble_eq_true rfl) (fun p e s m below meth c C hK hr hlk => ?_)
  unfold F_T_turn at hF
  show G p l e { frames := 7, cells := 0, slots := 0, locals := 158 } s m _ below meth c _ D (AC a) 4 (WC a cs μ) 0 [(0, .ref (a 0)), (1, .int x1)] []
  refine g_iload_n (pc1 := 1) C d_T_turn_0 rfl rfl 1 rfl ?_
  obtain ⟨r1, hr1, hF⟩ := bnd_some hF
  refine g_callSI (pc1 := 4) (As := [.int x1]) (rest := []) C 1 (c_T_isStrength l x1 r1 hr1) s_T_isStrength kw_34 rfl ⟨Nat.le_of_ble_eq_true rfl, Nat.le_of_ble_eq_true rfl⟩ ⟨rfl, rfl⟩ d_T_turn_1 rfl rfl (Nat.le_of_ble_eq_true rfl) ?_
  refine g_if_ne (pc1 := 7) C 14 d_T_turn_4 rfl (by decide) (fun c1 => ?_) (fun c1 => ?_)
  · replace hF := ite_f hF c1
    refine g_aload_n (pc1 := 15) C d_T_turn_14 rfl rfl 0 rfl ?_
    refine get_WC_0_field (pc1 := 18) C hK kw_12 d_T_turn_15 rfl ?_
    obtain ⟨r2, hr2, hF⟩ := bnd_some hF
    refine g_callFI (pc1 := 21) (ws1 := WC a cs μ) (As := []) (rest := []) (b := a 1) C hK 0 (frR_1 a cs μ) (c_F_allChances l D cs (off 1 a) (sub 1 μ)  r2 hr2) s_F_allChances kw_122 1 rfl rfl rfl ⟨Nat.le_of_ble_eq_true rfl, Nat.le_of_ble_eq_true rfl⟩ ⟨rfl, rfl⟩ d_T_turn_18 rfl rfl (Nat.le_of_ble_eq_true rfl) ?_
    refine g_istore_n (pc1 := 22) (L1 := [(2, .int r2), (0, .ref (a 0)), (1, .int x1)]) C d_T_turn_21 rfl rfl (by decide) rfl ?_
    refine g_iload_n (pc1 := 23) C d_T_turn_22 rfl rfl 0 rfl ?_
    refine g_if_ne (pc1 := 26) C 31 d_T_turn_23 rfl (by decide) (fun c1 => ?_) (fun c1 => ?_)
    · replace hF := ite_f hF c1
      refine g_aload_n (pc1 := 32) C d_T_turn_31 rfl rfl 1 rfl ?_
      obtain ⟨m3, hm3, hF⟩ := bnd_some hF
      refine g_callVR (pc1 := 35) (ws1 := WC a cs m3) (As := []) (rest := []) (b := a 0) C hK 0 (c_T_asItIs l D cs a μ  m3 hm3) s_T_asItIs kw_81 0 rfl rfl rfl ⟨Nat.le_of_ble_eq_true rfl, Nat.le_of_ble_eq_true rfl⟩ ⟨rfl, rfl⟩ d_T_turn_32 rfl rfl (Nat.le_of_ble_eq_true rfl) ?_
      refine g_pop (pc1 := 36) C d_T_turn_35 rfl rfl ?_
      refine g_aload_n (pc1 := 37) C d_T_turn_36 rfl rfl 1 rfl ?_
      refine get_WC_0_plans (pc1 := 40) C hK kw_107 d_T_turn_37 rfl ?_
      refine g_iload_n (pc1 := 41) C d_T_turn_40 rfl rfl 2 rfl ?_
      obtain ⟨⟨r4, m4⟩, hm4, hF⟩ := bnd_some hF
      refine g_callVI (pc1 := 44) (ws1 := WC a cs m4) (As := [.int x1]) (rest := []) (b := a 10) C hK 1 (c_P_bestTurn l D cs a m3 x1 r4 m4 hm4) s_P_bestTurn kw_127 10 rfl rfl rfl ⟨Nat.le_of_ble_eq_true rfl, Nat.le_of_ble_eq_true rfl⟩ ⟨rfl, rfl⟩ d_T_turn_41 rfl rfl (Nat.le_of_ble_eq_true rfl) ?_
      refine g_istore_n (pc1 := 45) (L1 := [(3, .int r4), (2, .int r2), (0, .ref (a 0)), (1, .int x1)]) C d_T_turn_44 rfl rfl (by decide) rfl ?_
      refine g_aload_n (pc1 := 46) C d_T_turn_45 rfl rfl 2 rfl ?_
      refine get_WC_0_gale (pc1 := 49) C hK kw_51 d_T_turn_46 rfl ?_
      refine g_iload_n (pc1 := 50) C d_T_turn_49 rfl rfl 0 rfl ?_
      refine put_WC_7_turned (pc1 := 53) C hK kw_128 d_T_turn_50 rfl ?_
      refine g_aload_n (pc1 := 54) C d_T_turn_53 rfl rfl 2 rfl ?_
      refine g_aload_n (pc1 := 55) C d_T_turn_54 rfl rfl 2 rfl ?_
      refine get_WC_0_gale (pc1 := 58) C hK kw_51 d_T_turn_55 rfl ?_
      refine g_iload_n (pc1 := 59) C d_T_turn_58 rfl rfl 3 rfl ?_
      obtain ⟨r5, hr5, hF⟩ := bnd_some hF
      refine g_callVI (pc1 := 62) (ws1 := WC a cs (stI m4 7 6 r4)) (As := [.int x1]) (rest := [.ref (a 0)]) (b := a 7) C hK 1 (c_G_harmless l D cs a (stI m4 7 6 r4) x1 r5 hr5) s_G_harmless kw_123 7 rfl rfl rfl ⟨Nat.le_of_ble_eq_true rfl, Nat.le_of_ble_eq_true rfl⟩ ⟨rfl, rfl⟩ d_T_turn_59 rfl rfl (Nat.le_of_ble_eq_true rfl) ?_
      refine g_iload_n (pc1 := 63) C d_T_turn_62 rfl rfl 1 rfl ?_
      obtain ⟨m6, hm6, hF⟩ := bnd_some hF
      refine g_callVV (pc1 := 66) (ws1 := WC a cs m6) (As := [.int r5, .int r2]) (rest := []) (b := a 0) C hK 2 (c_T_keepFraction l D cs a (stI m4 7 6 r4) r5 r2 m6 hm6) s_T_keepFraction kw_124 0 rfl rfl rfl ⟨Nat.le_of_ble_eq_true rfl, Nat.le_of_ble_eq_true rfl⟩ ⟨rfl, rfl⟩ d_T_turn_63 rfl rfl (Nat.le_of_ble_eq_true rfl) ?_
      refine g_iload_n (pc1 := 67) C d_T_turn_66 rfl rfl 0 rfl ?_
      exact g_iret C hr hlk d_T_turn_67 (fst_of hF) (congrArg (WC a cs) (snd_of hF))
    · replace hF := ite_t hF c1
      refine g_aload_n (pc1 := 27) C d_T_turn_26 rfl rfl 1 rfl ?_
      obtain ⟨⟨r7, m7⟩, hm7, hF⟩ := bnd_some hF
      refine g_callVI (pc1 := 30) (ws1 := WC a cs m7) (As := []) (rest := []) (b := a 0) C hK 0 (c_T_no l D cs a μ  r7 m7 hm7) s_T_no kw_27 0 rfl rfl rfl ⟨Nat.le_of_ble_eq_true rfl, Nat.le_of_ble_eq_true rfl⟩ ⟨rfl, rfl⟩ d_T_turn_27 rfl rfl (Nat.le_of_ble_eq_true rfl) ?_
      exact g_iret C hr hlk d_T_turn_30 (fst_of hF) (congrArg (WC a cs) (snd_of hF))
  · replace hF := ite_t hF c1
    refine g_aload_n (pc1 := 8) C d_T_turn_7 rfl rfl 0 rfl ?_
    refine g_bipush (pc1 := 10) (v := (-2 : Int32)) C d_T_turn_8 rfl bp_m2 ?_
    obtain ⟨⟨r8, m8⟩, hm8, hF⟩ := bnd_some hF
    refine g_callVI (pc1 := 13) (ws1 := WC a cs m8) (As := [.int (-2 : Int32)]) (rest := []) (b := a 0) C hK 1 (c_T_bad l D cs a μ (-2 : Int32) r8 m8 hm8) s_T_bad kw_15 0 rfl rfl rfl ⟨Nat.le_of_ble_eq_true rfl, Nat.le_of_ble_eq_true rfl⟩ ⟨rfl, rfl⟩ d_T_turn_10 rfl rfl (Nat.le_of_ble_eq_true rfl) ?_
    exact g_iret C hr hlk d_T_turn_13 (fst_of hF) (congrArg (WC a cs) (snd_of hF))
-- TentPegs.worth(II)I
set_option maxHeartbeats 4000000 in
set_option maxRecDepth 100000 in
theorem c_T_worth (l : Launch) (D : va_G) (cs : Nat → ClassId) (a : Nat → Nat) (μ : Mem) (x1 : Int32) (x2 : Int32) (r : Int32) (μ1 : Mem) (hF : F_T_worth μ x1 x2 = some (r, μ1)) : MetI l y_T_worth b_T_worth 5 (some .int) { frames := 6, cells := 0, slots := 0, locals := 133 } D cs (AC a) (WC a cs μ) [.ref (a 0), .int x1, .int x2] r (WC a cs μ1) := by
  refine met_of rfl (by decide +kernel) (Nat.le_of_ble_eq_true rfl) (fun p e s m below meth c C hK hr hlk => ?_)
  unfold F_T_worth at hF
  show G p l e { frames := 6, cells := 0, slots := 0, locals := 133 } s m _ below meth c _ D (AC a) 5 (WC a cs μ) 0 [(0, .ref (a 0)), (1, .int x1), (2, .int x2)] []
  refine g_iload_n (pc1 := 1) C d_T_worth_0 rfl rfl 1 rfl ?_
  refine g_iload_n (pc1 := 2) C d_T_worth_1 rfl rfl 2 rfl ?_
  obtain ⟨r1, hr1, hF⟩ := bnd_some hF
  refine g_callSI (pc1 := 5) (As := [.int x1, .int x2]) (rest := []) C 2 (c_T_isGust l x1 x2 r1 hr1) s_T_isGust kw_77 rfl ⟨Nat.le_of_ble_eq_true rfl, Nat.le_of_ble_eq_true rfl⟩ ⟨rfl, rfl⟩ d_T_worth_2 rfl rfl (Nat.le_of_ble_eq_true rfl) ?_
  refine g_if_ne (pc1 := 8) C 15 d_T_worth_5 rfl (by decide) (fun c1 => ?_) (fun c1 => ?_)
  · replace hF := ite_f hF c1
    refine g_aload_n (pc1 := 16) C d_T_worth_15 rfl rfl 0 rfl ?_
    refine get_WC_0_field (pc1 := 19) C hK kw_12 d_T_worth_16 rfl ?_
    obtain ⟨r2, hr2, hF⟩ := bnd_some hF
    refine g_callFI (pc1 := 22) (ws1 := WC a cs μ) (As := []) (rest := []) (b := a 1) C hK 0 (frR_1 a cs μ) (c_F_allChances l D cs (off 1 a) (sub 1 μ)  r2 hr2) s_F_allChances kw_122 1 rfl rfl rfl ⟨Nat.le_of_ble_eq_true rfl, Nat.le_of_ble_eq_true rfl⟩ ⟨rfl, rfl⟩ d_T_worth_19 rfl rfl (Nat.le_of_ble_eq_true rfl) ?_
    refine g_istore_n (pc1 := 23) (L1 := [(3, .int r2), (0, .ref (a 0)), (1, .int x1), (2, .int x2)]) C d_T_worth_22 rfl rfl (by decide) rfl ?_
    refine g_iload_n (pc1 := 24) C d_T_worth_23 rfl rfl 0 rfl ?_
    refine g_if_ne (pc1 := 27) C 32 d_T_worth_24 rfl (by decide) (fun c1 => ?_) (fun c1 => ?_)
    · replace hF := ite_f hF c1
      refine g_aload_n (pc1 := 33) C d_T_worth_32 rfl rfl 1 rfl ?_
      obtain ⟨m3, hm3, hF⟩ := bnd_some hF
      refine g_callVR (pc1 := 36) (ws1 := WC a cs m3) (As := []) (rest := []) (b := a 0) C hK 0 (c_T_asItIs l D cs a μ  m3 hm3) s_T_asItIs kw_81 0 rfl rfl rfl ⟨Nat.le_of_ble_eq_true rfl, Nat.le_of_ble_eq_true rfl⟩ ⟨rfl, rfl⟩ d_T_worth_33 rfl rfl (Nat.le_of_ble_eq_true rfl) ?_
      refine g_iload_n (pc1 := 37) C d_T_worth_36 rfl rfl 3 rfl ?_
      obtain ⟨r4, hr4, hF⟩ := bnd_some hF
      refine g_callVI (pc1 := 40) (ws1 := WC a cs m3) (As := [.int x2]) (rest := []) (b := a 7) C hK 1 (c_G_harmless l D cs a m3 x2 r4 hr4) s_G_harmless kw_123 7 rfl rfl rfl ⟨Nat.le_of_ble_eq_true rfl, Nat.le_of_ble_eq_true rfl⟩ ⟨rfl, rfl⟩ d_T_worth_37 rfl rfl (Nat.le_of_ble_eq_true rfl) ?_
      refine g_istore (pc1 := 42) (L1 := [(4, .int r4), (3, .int r2), (0, .ref (a 0)), (1, .int x1), (2, .int x2)]) C d_T_worth_40 rfl (by decide) rfl ?_
      refine g_aload_n (pc1 := 43) C d_T_worth_42 rfl rfl 2 rfl ?_
      refine get_WC_0_gale (pc1 := 46) C hK kw_51 d_T_worth_43 rfl ?_
      refine g_aload_n (pc1 := 47) C d_T_worth_46 rfl rfl 2 rfl ?_
      refine get_WC_0_gale (pc1 := 50) C hK kw_51 d_T_worth_47 rfl ?_
      refine get_WC_7_walls (pc1 := 53) C hK (v := (m3.1 7 5)) rfl kw_129 d_T_worth_50 rfl ?_
      refine g_iload_n (pc1 := 54) C d_T_worth_53 rfl rfl 3 rfl ?_
      refine g_iconst (pc1 := 55) (v := (1 : Int32)) C d_T_worth_54 rfl ic_1 ?_
      obtain ⟨r5, hr5, hF⟩ := bnd_some hF
      refine g_callSI (pc1 := 58) (As := [.int (m3.1 7 5), .int x1, .int (1 : Int32)]) (rest := [.ref (a 7)]) C 3 (c_T_with l (m3.1 7 5) x1 (1 : Int32) r5 hr5) s_T_with kw_87 rfl ⟨Nat.le_of_ble_eq_true rfl, Nat.le_of_ble_eq_true rfl⟩ ⟨rfl, rfl⟩ d_T_worth_55 rfl rfl (Nat.le_of_ble_eq_true rfl) ?_
      refine put_WC_7_walls (pc1 := 61) C hK kw_129 d_T_worth_58 rfl ?_
      refine g_aload_n (pc1 := 62) C d_T_worth_61 rfl rfl 2 rfl ?_
      refine g_aload_n (pc1 := 63) C d_T_worth_62 rfl rfl 2 rfl ?_
      refine get_WC_0_gale (pc1 := 66) C hK kw_51 d_T_worth_63 rfl ?_
      refine g_iload_n (pc1 := 67) C d_T_worth_66 rfl rfl 4 rfl ?_
      obtain ⟨r6, hr6, hF⟩ := bnd_some hF
      refine g_callVI (pc1 := 70) (ws1 := WC a cs (stI m3 7 5 r5)) (As := [.int x2]) (rest := [.ref (a 0)]) (b := a 7) C hK 1 (c_G_harmless l D cs a (stI m3 7 5 r5) x2 r6 hr6) s_G_harmless kw_123 7 rfl rfl rfl ⟨Nat.le_of_ble_eq_true rfl, Nat.le_of_ble_eq_true rfl⟩ ⟨rfl, rfl⟩ d_T_worth_67 rfl rfl (Nat.le_of_ble_eq_true rfl) ?_
      refine g_iload (pc1 := 72) C d_T_worth_70 rfl 0 rfl ?_
      refine g_isub (pc1 := 73) C d_T_worth_72 rfl ?_
      refine g_iload_n (pc1 := 74) C d_T_worth_73 rfl rfl 1 rfl ?_
      obtain ⟨m7, hm7, hF⟩ := bnd_some hF
      refine g_callVV (pc1 := 77) (ws1 := WC a cs m7) (As := [.int (r6 - r4), .int r2]) (rest := []) (b := a 0) C hK 2 (c_T_keepFraction l D cs a (stI m3 7 5 r5) (r6 - r4) r2 m7 hm7) s_T_keepFraction kw_124 0 rfl rfl rfl ⟨Nat.le_of_ble_eq_true rfl, Nat.le_of_ble_eq_true rfl⟩ ⟨rfl, rfl⟩ d_T_worth_74 rfl rfl (Nat.le_of_ble_eq_true rfl) ?_
      refine g_iconst (pc1 := 78) (v := (1 : Int32)) C d_T_worth_77 rfl ic_1 ?_
      exact g_iret C hr hlk d_T_worth_78 (fst_of hF) (congrArg (WC a cs) (snd_of hF))
    · replace hF := ite_t hF c1
      refine g_aload_n (pc1 := 28) C d_T_worth_27 rfl rfl 1 rfl ?_
      obtain ⟨⟨r8, m8⟩, hm8, hF⟩ := bnd_some hF
      refine g_callVI (pc1 := 31) (ws1 := WC a cs m8) (As := []) (rest := []) (b := a 0) C hK 0 (c_T_no l D cs a μ  r8 m8 hm8) s_T_no kw_27 0 rfl rfl rfl ⟨Nat.le_of_ble_eq_true rfl, Nat.le_of_ble_eq_true rfl⟩ ⟨rfl, rfl⟩ d_T_worth_28 rfl rfl (Nat.le_of_ble_eq_true rfl) ?_
      exact g_iret C hr hlk d_T_worth_31 (fst_of hF) (congrArg (WC a cs) (snd_of hF))
  · replace hF := ite_t hF c1
    refine g_aload_n (pc1 := 9) C d_T_worth_8 rfl rfl 0 rfl ?_
    refine g_bipush (pc1 := 11) (v := (-2 : Int32)) C d_T_worth_9 rfl bp_m2 ?_
    obtain ⟨⟨r9, m9⟩, hm9, hF⟩ := bnd_some hF
    refine g_callVI (pc1 := 14) (ws1 := WC a cs m9) (As := [.int (-2 : Int32)]) (rest := []) (b := a 0) C hK 1 (c_T_bad l D cs a μ (-2 : Int32) r9 m9 hm9) s_T_bad kw_15 0 rfl rfl rfl ⟨Nat.le_of_ble_eq_true rfl, Nat.le_of_ble_eq_true rfl⟩ ⟨rfl, rfl⟩ d_T_worth_11 rfl rfl (Nat.le_of_ble_eq_true rfl) ?_
    exact g_iret C hr hlk d_T_worth_14 (fst_of hF) (congrArg (WC a cs) (snd_of hF))
