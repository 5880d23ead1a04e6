-- TentPegs$Field.become(LTentPegs$Field;)V
set_option maxHeartbeats 4000000 in
set_option maxRecDepth 100000 in
theorem c_F_become (l : Launch) (D : va_G) (cs : Nat → ClassId) (a : Nat → Nat) (μ : Mem)  (μ1 : Mem) (hF : F_F_become μ = some μ1) : MetV l y_F_become b_F_become 2 none { frames := 1, cells := 0, slots := 0, locals := 26 } D cs (AFF a) (WFF a cs μ) [.ref (a 0), .ref (a 6)] (WFF a cs μ1) := by
  refine met_of rfl (by decide +kernel) (Nat.le_of_ble_eq_true rfl) (fun p e s m below meth c C hK hr hlk => ?_)
  unfold F_F_become at hF
  show G p l e { frames := 1, cells := 0, slots := 0, locals := 26 } s m _ below meth c _ D (AFF a) 2 (WFF a cs μ) 0 [(0, .ref (a 0)), (1, .ref (a 6))] []
  refine g_aload_n (pc1 := 1) C d_F_become_0 rfl rfl 0 rfl ?_
  refine g_aload_n (pc1 := 2) C d_F_become_1 rfl rfl 1 rfl ?_
  refine get_WFF_6_pegs (pc1 := 5) C hK (v := (μ.1 6 0)) rfl kw_4 d_F_become_2 rfl ?_
  refine put_WFF_0_pegs (pc1 := 8) C hK kw_4 d_F_become_5 rfl ?_
  refine g_aload_n (pc1 := 9) C d_F_become_8 rfl rfl 0 rfl ?_
  refine g_aload_n (pc1 := 10) C d_F_become_9 rfl rfl 1 rfl ?_
  refine get_WFF_6_wetness (pc1 := 13) C hK (v := (μ.1 6 1)) rfl kw_5 d_F_become_10 rfl ?_
  refine put_WFF_0_wetness (pc1 := 16) C hK kw_5 d_F_become_13 rfl ?_
  refine g_aload_n (pc1 := 17) C d_F_become_16 rfl rfl 0 rfl ?_
  refine g_aload_n (pc1 := 18) C d_F_become_17 rfl rfl 1 rfl ?_
  refine get_WFF_6_walls (pc1 := 21) C hK (v := (μ.1 6 2)) rfl kw_6 d_F_become_18 rfl ?_
  refine put_WFF_0_walls (pc1 := 24) C hK kw_6 d_F_become_21 rfl ?_
  refine g_aload_n (pc1 := 25) C d_F_become_24 rfl rfl 0 rfl ?_
  refine g_aload_n (pc1 := 26) C d_F_become_25 rfl rfl 1 rfl ?_
  refine get_WFF_6_standing (pc1 := 29) C hK (v := (μ.1 6 3)) rfl kw_7 d_F_become_26 rfl ?_
  refine put_WFF_0_standing (pc1 := 32) C hK kw_7 d_F_become_29 rfl ?_
  refine g_aload_n (pc1 := 33) C d_F_become_32 rfl rfl 0 rfl ?_
  refine g_aload_n (pc1 := 34) C d_F_become_33 rfl rfl 1 rfl ?_
  refine get_WFF_6_undoable (pc1 := 37) C hK (v := (μ.1 6 4)) rfl kw_8 d_F_become_34 rfl ?_
  refine put_WFF_0_undoable (pc1 := 40) C hK kw_8 d_F_become_37 rfl ?_
  refine g_aload_n (pc1 := 41) C d_F_become_40 rfl rfl 1 rfl ?_
  refine get_WFF_6_kinds (pc1 := 44) C hK kw_1 d_F_become_41 rfl ?_
  refine g_iconst (pc1 := 45) (v := (0 : Int32)) C d_F_become_44 rfl ic_0 ?_
  refine g_aload_n (pc1 := 46) C d_F_become_45 rfl rfl 0 rfl ?_
  refine get_WFF_0_kinds (pc1 := 49) C hK kw_1 d_F_become_46 rfl ?_
  refine g_iconst (pc1 := 50) (v := (0 : Int32)) C d_F_become_49 rfl ic_0 ?_
  refine g_bipush (pc1 := 52) (v := (8 : Int32)) C d_F_become_50 rfl bp_8 ?_
  refine g_copy (pc1 := 55) (ws1 := WFF a cs (stR (stI (stI (stI (stI (stI μ 0 0 (μ.1 6 0)) 0 1 (μ.1 6 1)) 0 2 (μ.1 6 2)) 0 3 (μ.1 6 3)) 0 4 (μ.1 6 4)) 1 (va_cpy (μ.1 7) (μ.1 1) 0 0 8))) C hK 7 1 (f := (μ.1 7)) (g := (μ.1 1)) kw_40 kw_41 kw_42 kw_43 rfl rfl (by decide) (by decide) (by decide) (by decide) (by decide) (Nat.le_of_ble_eq_true rfl) (Nat.le_of_ble_eq_true rfl) (setR_WFF_1 _ _ _ _) d_F_become_52 rfl ?_
  refine g_aload_n (pc1 := 56) C d_F_become_55 rfl rfl 1 rfl ?_
  refine get_WFF_6_depths (pc1 := 59) C hK kw_2 d_F_become_56 rfl ?_
  refine g_iconst (pc1 := 60) (v := (0 : Int32)) C d_F_become_59 rfl ic_0 ?_
  refine g_aload_n (pc1 := 61) C d_F_become_60 rfl rfl 0 rfl ?_
  refine get_WFF_0_depths (pc1 := 64) C hK kw_2 d_F_become_61 rfl ?_
  refine g_iconst (pc1 := 65) (v := (0 : Int32)) C d_F_become_64 rfl ic_0 ?_
  refine g_bipush (pc1 := 67) (v := (8 : Int32)) C d_F_become_65 rfl bp_8 ?_
  refine g_copy (pc1 := 70) (ws1 := WFF a cs (stR (stR (stI (stI (stI (stI (stI μ 0 0 (μ.1 6 0)) 0 1 (μ.1 6 1)) 0 2 (μ.1 6 2)) 0 3 (μ.1 6 3)) 0 4 (μ.1 6 4)) 1 (va_cpy (μ.1 7) (μ.1 1) 0 0 8)) 2 (va_cpy (μ.1 8) (μ.1 2) 0 0 8))) C hK 8 2 (f := (μ.1 8)) (g := (μ.1 2)) kw_40 kw_41 kw_42 kw_43 rfl rfl (by decide) (by decide) (by decide) (by decide) (by decide) (Nat.le_of_ble_eq_true rfl) (Nat.le_of_ble_eq_true rfl) (setR_WFF_2 _ _ _ _) d_F_become_67 rfl ?_
  refine g_aload_n (pc1 := 71) C d_F_become_70 rfl rfl 1 rfl ?_
  refine get_WFF_6_grounds (pc1 := 74) C hK kw_3 d_F_become_71 rfl ?_
  refine g_iconst (pc1 := 75) (v := (0 : Int32)) C d_F_become_74 rfl ic_0 ?_
  refine g_aload_n (pc1 := 76) C d_F_become_75 rfl rfl 0 rfl ?_
  refine get_WFF_0_grounds (pc1 := 79) C hK kw_3 d_F_become_76 rfl ?_
  refine g_iconst (pc1 := 80) (v := (0 : Int32)) C d_F_become_79 rfl ic_0 ?_
  refine g_bipush (pc1 := 82) (v := (8 : Int32)) C d_F_become_80 rfl bp_8 ?_
  refine g_copy (pc1 := 85) (ws1 := WFF a cs (stR (stR (stR (stI (stI (stI (stI (stI μ 0 0 (μ.1 6 0)) 0 1 (μ.1 6 1)) 0 2 (μ.1 6 2)) 0 3 (μ.1 6 3)) 0 4 (μ.1 6 4)) 1 (va_cpy (μ.1 7) (μ.1 1) 0 0 8)) 2 (va_cpy (μ.1 8) (μ.1 2) 0 0 8)) 3 (va_cpy (μ.1 9) (μ.1 3) 0 0 8))) C hK 9 3 (f := (μ.1 9)) (g := (μ.1 3)) kw_40 kw_41 kw_42 kw_43 rfl rfl (by decide) (by decide) (by decide) (by decide) (by decide) (Nat.le_of_ble_eq_true rfl) (Nat.le_of_ble_eq_true rfl) (setR_WFF_3 _ _ _ _) d_F_become_82 rfl ?_
  refine g_aload_n (pc1 := 86) C d_F_become_85 rfl rfl 1 rfl ?_
  refine get_WFF_6_chances (pc1 := 89) C hK kw_10 d_F_become_86 rfl ?_
  refine g_iconst (pc1 := 90) (v := (0 : Int32)) C d_F_become_89 rfl ic_0 ?_
  refine g_aload_n (pc1 := 91) C d_F_become_90 rfl rfl 0 rfl ?_
  refine get_WFF_0_chances (pc1 := 94) C hK kw_10 d_F_become_91 rfl ?_
  refine g_iconst (pc1 := 95) (v := (0 : Int32)) C d_F_become_94 rfl ic_0 ?_
  refine g_bipush (pc1 := 97) (v := (8 : Int32)) C d_F_become_95 rfl bp_8 ?_
  refine g_copy (pc1 := 100) (ws1 := WFF a cs (stR (stR (stR (stR (stI (stI (stI (stI (stI μ 0 0 (μ.1 6 0)) 0 1 (μ.1 6 1)) 0 2 (μ.1 6 2)) 0 3 (μ.1 6 3)) 0 4 (μ.1 6 4)) 1 (va_cpy (μ.1 7) (μ.1 1) 0 0 8)) 2 (va_cpy (μ.1 8) (μ.1 2) 0 0 8)) 3 (va_cpy (μ.1 9) (μ.1 3) 0 0 8)) 4 (va_cpy (μ.1 10) (μ.1 4) 0 0 8))) C hK 10 4 (f := (μ.1 10)) (g := (μ.1 4)) kw_40 kw_41 kw_42 kw_43 rfl rfl (by decide) (by decide) (by decide) (by decide) (by decide) (Nat.le_of_ble_eq_true rfl) (Nat.le_of_ble_eq_true rfl) (setR_WFF_4 _ _ _ _) d_F_become_97 rfl ?_
  refine g_aload_n (pc1 := 101) C d_F_become_100 rfl rfl 1 rfl ?_
  refine get_WFF_6_stoodBefore (pc1 := 104) C hK kw_39 d_F_become_101 rfl ?_
  refine g_iconst (pc1 := 105) (v := (0 : Int32)) C d_F_become_104 rfl ic_0 ?_
  refine g_aload_n (pc1 := 106) C d_F_become_105 rfl rfl 0 rfl ?_
  refine get_WFF_0_stoodBefore (pc1 := 109) C hK kw_39 d_F_become_106 rfl ?_
  refine g_iconst (pc1 := 110) (v := (0 : Int32)) C d_F_become_109 rfl ic_0 ?_
  refine g_bipush (pc1 := 112) (v := (10 : Int32)) C d_F_become_110 rfl bp_10 ?_
  refine g_copy (pc1 := 115) (ws1 := WFF a cs (stR (stR (stR (stR (stR (stI (stI (stI (stI (stI μ 0 0 (μ.1 6 0)) 0 1 (μ.1 6 1)) 0 2 (μ.1 6 2)) 0 3 (μ.1 6 3)) 0 4 (μ.1 6 4)) 1 (va_cpy (μ.1 7) (μ.1 1) 0 0 8)) 2 (va_cpy (μ.1 8) (μ.1 2) 0 0 8)) 3 (va_cpy (μ.1 9) (μ.1 3) 0 0 8)) 4 (va_cpy (μ.1 10) (μ.1 4) 0 0 8)) 5 (va_cpy (μ.1 11) (μ.1 5) 0 0 10))) C hK 11 5 (f := (μ.1 11)) (g := (μ.1 5)) kw_40 kw_41 kw_42 kw_43 rfl rfl (by decide) (by decide) (by decide) (by decide) (by decide) (Nat.le_of_ble_eq_true rfl) (Nat.le_of_ble_eq_true rfl) (setR_WFF_5 _ _ _ _) d_F_become_112 rfl ?_
  exact g_vret C hr hlk d_F_become_115 (congrArg (WFF a cs) (Option.some.inj hF))
-- TentPegs.image(I)I
set_option maxHeartbeats 4000000 in
set_option maxRecDepth 100000 in
theorem c_T_image (l : Launch) (D : va_G) (cs : Nat → ClassId) (a : Nat → Nat) (μ : Mem) (x1 : Int32) (r : Int32) (μ1 : Mem) (hF : F_T_image μ x1 = some (r, μ1)) : MetI l y_T_image b_T_image 2 (some .int) { frames := 2, cells := 0, slots := 0, locals := 47 } D cs (AC a) (WC a cs μ) [.ref (a 0), .int x1] r (WC a cs μ1) := by
  refine met_of rfl (by decide +kernel) (Nat.le_of_ble_eq_true rfl) (fun p e s m below meth c C hK hr hlk => ?_)
  unfold F_T_image at hF
  show G p l e { frames := 2, cells := 0, slots := 0, locals := 47 } s m _ below meth c _ D (AC a) 2 (WC a cs μ) 0 [(0, .ref (a 0)), (1, .int x1)] []
  refine g_iload_n (pc1 := 1) C d_T_image_0 rfl rfl 1 rfl ?_
  refine g_iconst (pc1 := 2) (v := (0 : Int32)) C d_T_image_1 rfl ic_0 ?_
  refine g_aload_n (pc1 := 3) C d_T_image_2 rfl rfl 0 rfl ?_
  refine get_WC_0_images (pc1 := 6) C hK kw_162 d_T_image_3 rfl ?_
  refine g_alen (pc1 := 7) C hK 22 3 (v := (2 : Int32)) rfl rfl on_2 d_T_image_6 rfl ?_
  refine g_iconst (pc1 := 8) (v := (1 : Int32)) C d_T_image_7 rfl ic_1 ?_
  refine g_isub (pc1 := 9) C d_T_image_8 rfl ?_
  obtain ⟨r1, hr1, hF⟩ := bnd_some hF
  refine g_callSI (pc1 := 12) (As := [.int x1, .int (0 : Int32), .int ((2 : Int32) - (1 : Int32))]) (rest := []) C 3 (c_T_within l x1 (0 : Int32) ((2 : Int32) - (1 : Int32)) r1 hr1) s_T_within kw_22 rfl ⟨Nat.le_of_ble_eq_true rfl, Nat.le_of_ble_eq_true rfl⟩ ⟨rfl, rfl⟩ d_T_image_9 rfl rfl (Nat.le_of_ble_eq_true rfl) ?_
  refine g_if_ne (pc1 := 15) C 22 d_T_image_12 rfl (by decide) (fun c1 => ?_) (fun c1 => ?_)
  · replace hF := ite_f hF c1
    refine g_aload_n (pc1 := 23) C d_T_image_22 rfl rfl 0 rfl ?_
    refine get_WC_0_images (pc1 := 26) C hK kw_162 d_T_image_23 rfl ?_
    refine g_iload_n (pc1 := 27) C d_T_image_26 rfl rfl 1 rfl ?_
    by_cases h0 : x1 = (0 : Int32)
    · replace hF := ite_t hF h0
      refine g_aald (pc1 := 28) C hK 22 (v := a 23) (f := fun j => some (a (23 + 6 * j))) rfl (by rw [h0]; decide) (by rw [h0]; rfl) d_T_image_27 rfl ?_
      refine g_aload_n (pc1 := 29) C d_T_image_28 rfl rfl 0 rfl ?_
      refine get_WC_0_field (pc1 := 32) C hK kw_12 d_T_image_29 rfl ?_
      obtain ⟨m2, hm2, hF⟩ := bnd_some hF
      refine g_callFV (pc1 := 35) (ws1 := WC a cs (put6 23 0 (put6 1 6 μ m2) m2)) (As := [.ref (a 1)]) (rest := []) (b := a 23) C hK 1 (fr2_23_1 a cs μ m2) (c_F_become l D cs (off2 23 1 a) (two 23 1 μ)  m2 hm2) s_F_become kw_163 23 rfl rfl rfl ⟨Nat.le_of_ble_eq_true rfl, Nat.le_of_ble_eq_true rfl⟩ ⟨rfl, rfl⟩ d_T_image_32 rfl rfl (Nat.le_of_ble_eq_true rfl) ?_
      refine g_aload_n (pc1 := 36) C d_T_image_35 rfl rfl 0 rfl ?_
      refine get_WC_0_kept (pc1 := 39) C hK kw_164 d_T_image_36 rfl ?_
      refine g_iload_n (pc1 := 40) C d_T_image_39 rfl rfl 1 rfl ?_
      refine g_iconst (pc1 := 41) (v := (1 : Int32)) C d_T_image_40 rfl ic_1 ?_
      have hg := gd_some hF
      replace hF := hg.2
      refine g_zast (pc1 := 42) (ws1 := WC a cs (stI (put6 23 0 (put6 1 6 μ m2) m2) 35 x1.toNatClampNeg (vp_nar .boolean (1 : Int32)))) C hK 35 (f := (μ.1 35)) rfl hg.1 (set_WC_35 _ _ _ _ _) d_T_image_41 rfl ?_
      refine g_iconst (pc1 := 43) (v := (1 : Int32)) C d_T_image_42 rfl ic_1 ?_
      exact g_iret C hr hlk d_T_image_43 (fst_of hF) (congrArg (WC a cs) (snd_of hF))
    replace hF := ite_f hF h0
    by_cases h1 : x1 = (1 : Int32)
    · replace hF := ite_t hF h1
      refine g_aald (pc1 := 28) C hK 22 (v := a 29) (f := fun j => some (a (23 + 6 * j))) rfl (by rw [h1]; decide) (by rw [h1]; rfl) d_T_image_27 rfl ?_
      refine g_aload_n (pc1 := 29) C d_T_image_28 rfl rfl 0 rfl ?_
      refine get_WC_0_field (pc1 := 32) C hK kw_12 d_T_image_29 rfl ?_
      obtain ⟨m3, hm3, hF⟩ := bnd_some hF
      refine g_callFV (pc1 := 35) (ws1 := WC a cs (put6 29 0 (put6 1 6 μ m3) m3)) (As := [.ref (a 1)]) (rest := []) (b := a 29) C hK 1 (fr2_29_1 a cs μ m3) (c_F_become l D cs (off2 29 1 a) (two 29 1 μ)  m3 hm3) s_F_become kw_163 29 rfl rfl rfl ⟨Nat.le_of_ble_eq_true rfl, Nat.le_of_ble_eq_true rfl⟩ ⟨rfl, rfl⟩ d_T_image_32 rfl rfl (Nat.le_of_ble_eq_true rfl) ?_
      refine g_aload_n (pc1 := 36) C d_T_image_35 rfl rfl 0 rfl ?_
      refine get_WC_0_kept (pc1 := 39) C hK kw_164 d_T_image_36 rfl ?_
      refine g_iload_n (pc1 := 40) C d_T_image_39 rfl rfl 1 rfl ?_
      refine g_iconst (pc1 := 41) (v := (1 : Int32)) C d_T_image_40 rfl ic_1 ?_
      have hg := gd_some hF
      replace hF := hg.2
      refine g_zast (pc1 := 42) (ws1 := WC a cs (stI (put6 29 0 (put6 1 6 μ m3) m3) 35 x1.toNatClampNeg (vp_nar .boolean (1 : Int32)))) C hK 35 (f := (μ.1 35)) rfl hg.1 (set_WC_35 _ _ _ _ _) d_T_image_41 rfl ?_
      refine g_iconst (pc1 := 43) (v := (1 : Int32)) C d_T_image_42 rfl ic_1 ?_
      exact g_iret C hr hlk d_T_image_43 (fst_of hF) (congrArg (WC a cs) (snd_of hF))
    replace hF := ite_f hF h1
    exact none_no hF
  · replace hF := ite_t hF c1
    refine g_aload_n (pc1 := 16) C d_T_image_15 rfl rfl 0 rfl ?_
    refine g_bipush (pc1 := 18) (v := (-2 : Int32)) C d_T_image_16 rfl bp_m2 ?_
    obtain ⟨⟨r4, m4⟩, hm4, hF⟩ := bnd_some hF
    refine g_callVI (pc1 := 21) (ws1 := WC a cs m4) (As := [.int (-2 : Int32)]) (rest := []) (b := a 0) C hK 1 (c_T_bad l D cs a μ (-2 : Int32) r4 m4 hm4) s_T_bad kw_15 0 rfl rfl rfl ⟨Nat.le_of_ble_eq_true rfl, Nat.le_of_ble_eq_true rfl⟩ ⟨rfl, rfl⟩ d_T_image_18 rfl rfl (Nat.le_of_ble_eq_true rfl) ?_
    exact g_iret C hr hlk d_T_image_21 (fst_of hF) (congrArg (WC a cs) (snd_of hF))
-- TentPegs.from(I)I
set_option maxHeartbeats 4000000 in
set_option maxRecDepth 100000 in
theorem c_T_from (l : Launch) (D : va_G) (cs : Nat → ClassId) (a : Nat → Nat) (μ : Mem) (x1 : Int32) (r : Int32) (μ1 : Mem) (hF : F_T_from μ x1 = some (r, μ1)) : MetI l y_T_from b_T_from 2 (some .int) { frames := 2, cells := 0, slots := 0, locals := 47 } D cs (AC a) (WC a cs μ) [.ref (a 0), .int x1] r (WC a cs μ1) := by
  refine met_of rfl (by decide +kernel) (Nat.le_of_ble_eq_true rfl) (fun p e s m below meth c C hK hr hlk => ?_)
  unfold F_T_from at hF
  show G p l e { frames := 2, cells := 0, slots := 0, locals := 47 } s m _ below meth c _ D (AC a) 2 (WC a cs μ) 0 [(0, .ref (a 0)), (1, .int x1)] []
  refine g_iload_n (pc1 := 1) C d_T_from_0 rfl rfl 1 rfl ?_
  refine g_iconst (pc1 := 2) (v := (0 : Int32)) C d_T_from_1 rfl ic_0 ?_
  refine g_aload_n (pc1 := 3) C d_T_from_2 rfl rfl 0 rfl ?_
  refine get_WC_0_images (pc1 := 6) C hK kw_162 d_T_from_3 rfl ?_
  refine g_alen (pc1 := 7) C hK 22 3 (v := (2 : Int32)) rfl rfl on_2 d_T_from_6 rfl ?_
  refine g_iconst (pc1 := 8) (v := (1 : Int32)) C d_T_from_7 rfl ic_1 ?_
  refine g_isub (pc1 := 9) C d_T_from_8 rfl ?_
  obtain ⟨r1, hr1, hF⟩ := bnd_some hF
  refine g_callSI (pc1 := 12) (As := [.int x1, .int (0 : Int32), .int ((2 : Int32) - (1 : Int32))]) (rest := []) C 3 (c_T_within l x1 (0 : Int32) ((2 : Int32) - (1 : Int32)) r1 hr1) s_T_within kw_22 rfl ⟨Nat.le_of_ble_eq_true rfl, Nat.le_of_ble_eq_true rfl⟩ ⟨rfl, rfl⟩ d_T_from_9 rfl rfl (Nat.le_of_ble_eq_true rfl) ?_
  refine g_if_ne (pc1 := 15) C 22 d_T_from_12 rfl (by decide) (fun c1 => ?_) (fun c1 => ?_)
  · replace hF := ite_f hF c1
    refine g_aload_n (pc1 := 23) C d_T_from_22 rfl rfl 0 rfl ?_
    refine get_WC_0_kept (pc1 := 26) C hK kw_164 d_T_from_23 rfl ?_
    refine g_iload_n (pc1 := 27) C d_T_from_26 rfl rfl 1 rfl ?_
    have hg := gd_some hF
    replace hF := hg.2
    refine g_zald (pc1 := 28) C hK 35 (f := (μ.1 35)) rfl hg.1 d_T_from_27 rfl ?_
    refine g_if_ne (pc1 := 31) C 36 d_T_from_28 rfl (by decide) (fun c1 => ?_) (fun c1 => ?_)
    · replace hF := ite_f hF c1
      refine g_aload_n (pc1 := 37) C d_T_from_36 rfl rfl 0 rfl ?_
      refine get_WC_0_field (pc1 := 40) C hK kw_12 d_T_from_37 rfl ?_
      refine g_aload_n (pc1 := 41) C d_T_from_40 rfl rfl 0 rfl ?_
      refine get_WC_0_images (pc1 := 44) C hK kw_162 d_T_from_41 rfl ?_
      refine g_iload_n (pc1 := 45) C d_T_from_44 rfl rfl 1 rfl ?_
      by_cases h0 : x1 = (0 : Int32)
      · replace hF := ite_t hF h0
        refine g_aald (pc1 := 46) C hK 22 (v := a 23) (f := fun j => some (a (23 + 6 * j))) rfl (by rw [h0]; decide) (by rw [h0]; rfl) d_T_from_45 rfl ?_
        obtain ⟨m2, hm2, hF⟩ := bnd_some hF
        refine g_callFV (pc1 := 49) (ws1 := WC a cs (put6 1 0 (put6 23 6 μ m2) m2)) (As := [.ref (a 23)]) (rest := []) (b := a 1) C hK 1 (fr2_1_23 a cs μ m2) (c_F_become l D cs (off2 1 23 a) (two 1 23 μ)  m2 hm2) s_F_become kw_163 1 rfl rfl rfl ⟨Nat.le_of_ble_eq_true rfl, Nat.le_of_ble_eq_true rfl⟩ ⟨rfl, rfl⟩ d_T_from_46 rfl rfl (Nat.le_of_ble_eq_true rfl) ?_
        refine g_iconst (pc1 := 50) (v := (1 : Int32)) C d_T_from_49 rfl ic_1 ?_
        exact g_iret C hr hlk d_T_from_50 (fst_of hF) (congrArg (WC a cs) (snd_of hF))
      replace hF := ite_f hF h0
      by_cases h1 : x1 = (1 : Int32)
      · replace hF := ite_t hF h1
        refine g_aald (pc1 := 46) C hK 22 (v := a 29) (f := fun j => some (a (23 + 6 * j))) rfl (by rw [h1]; decide) (by rw [h1]; rfl) d_T_from_45 rfl ?_
        obtain ⟨m3, hm3, hF⟩ := bnd_some hF
        refine g_callFV (pc1 := 49) (ws1 := WC a cs (put6 1 0 (put6 29 6 μ m3) m3)) (As := [.ref (a 29)]) (rest := []) (b := a 1) C hK 1 (fr2_1_29 a cs μ m3) (c_F_become l D cs (off2 1 29 a) (two 1 29 μ)  m3 hm3) s_F_become kw_163 1 rfl rfl rfl ⟨Nat.le_of_ble_eq_true rfl, Nat.le_of_ble_eq_true rfl⟩ ⟨rfl, rfl⟩ d_T_from_46 rfl rfl (Nat.le_of_ble_eq_true rfl) ?_
        refine g_iconst (pc1 := 50) (v := (1 : Int32)) C d_T_from_49 rfl ic_1 ?_
        exact g_iret C hr hlk d_T_from_50 (fst_of hF) (congrArg (WC a cs) (snd_of hF))
      replace hF := ite_f hF h1
      exact none_no hF
    · replace hF := ite_t hF c1
      refine g_aload_n (pc1 := 32) C d_T_from_31 rfl rfl 0 rfl ?_
      obtain ⟨⟨r4, m4⟩, hm4, hF⟩ := bnd_some hF
      refine g_callVI (pc1 := 35) (ws1 := WC a cs m4) (As := []) (rest := []) (b := a 0) C hK 0 (c_T_no l D cs a μ  r4 m4 hm4) s_T_no kw_27 0 rfl rfl rfl ⟨Nat.le_of_ble_eq_true rfl, Nat.le_of_ble_eq_true rfl⟩ ⟨rfl, rfl⟩ d_T_from_32 rfl rfl (Nat.le_of_ble_eq_true rfl) ?_
      exact g_iret C hr hlk d_T_from_35 (fst_of hF) (congrArg (WC a cs) (snd_of hF))
  · replace hF := ite_t hF c1
    refine g_aload_n (pc1 := 16) C d_T_from_15 rfl rfl 0 rfl ?_
    refine g_bipush (pc1 := 18) (v := (-2 : Int32)) C d_T_from_16 rfl bp_m2 ?_
    obtain ⟨⟨r5, m5⟩, hm5, hF⟩ := bnd_some hF
    refine g_callVI (pc1 := 21) (ws1 := WC a cs m5) (As := [.int (-2 : Int32)]) (rest := []) (b := a 0) C hK 1 (c_T_bad l D cs a μ (-2 : Int32) r5 m5 hm5) s_T_bad kw_15 0 rfl rfl rfl ⟨Nat.le_of_ble_eq_true rfl, Nat.le_of_ble_eq_true rfl⟩ ⟨rfl, rfl⟩ d_T_from_18 rfl rfl (Nat.le_of_ble_eq_true rfl) ?_
    exact g_iret C hr hlk d_T_from_21 (fst_of hF) (congrArg (WC a cs) (snd_of hF))
-- TentPegs.status(I)I
set_option maxHeartbeats 4000000 in
set_option maxRecDepth 100000 in
theorem c_T_status (l : Launch) (D : va_G) (cs : Nat → ClassId) (a : Nat → Nat) (μ : Mem) (x1 : Int32) (r : Int32) (μ1 : Mem) (hF : F_T_status μ x1 = some (r, μ1)) : MetI l y_T_status b_T_status 2 (some .int) { frames := 1, cells := 0, slots := 0, locals := 21 } D cs (AC a) (WC a cs μ) [.ref (a 0), .int x1] r (WC a cs μ1) := by
  refine met_of rfl (by decide +kernel) (Nat.le_of_ble_eq_true rfl) (fun p e s m below meth c C hK hr hlk => ?_)
  unfold F_T_status at hF
  show G p l e { frames := 1, cells := 0, slots := 0, locals := 21 } s m _ below meth c _ D (AC a) 2 (WC a cs μ) 0 [(0, .ref (a 0)), (1, .int x1)] []
  refine g_iload_n (pc1 := 1) C d_T_status_0 rfl rfl 1 rfl ?_
  by_cases h0 : x1 = (0 : Int32)
  · replace hF := ite_t hF h0
    refine g_tblIn C 28 d_T_status_1 0 (by rw [h0]; exact ti_0) (by decide) (by decide) rfl (by decide) ?_
    refine g_aload_n (pc1 := 29) C d_T_status_28 rfl rfl 0 rfl ?_
    refine get_WC_0_bads (pc1 := 32) C hK (v := (μ.1 0 10)) rfl kw_0 d_T_status_29 rfl ?_
    exact g_iret C hr hlk d_T_status_32 (fst_of hF) (congrArg (WC a cs) (snd_of hF))
  replace hF := ite_f hF h0
  by_cases h1 : x1 = (1 : Int32)
  · replace hF := ite_t hF h1
    refine g_tblIn C 33 d_T_status_1 1 (by rw [h1]; exact ti_1) (by decide) (by decide) rfl (by decide) ?_
    refine g_aload_n (pc1 := 34) C d_T_status_33 rfl rfl 0 rfl ?_
    refine get_WC_0_noes (pc1 := 37) C hK (v := (μ.1 0 11)) rfl kw_23 d_T_status_34 rfl ?_
    exact g_iret C hr hlk d_T_status_37 (fst_of hF) (congrArg (WC a cs) (snd_of hF))
  replace hF := ite_f hF h1
  by_cases h2 : x1 = (2 : Int32)
  · replace hF := ite_t hF h2
    refine g_tblIn C 38 d_T_status_1 2 (by rw [h2]; exact ti_2) (by decide) (by decide) rfl (by decide) ?_
    refine g_aload_n (pc1 := 39) C d_T_status_38 rfl rfl 0 rfl ?_
    refine get_WC_0_fulls (pc1 := 42) C hK (v := (μ.1 0 12)) rfl kw_30 d_T_status_39 rfl ?_
    exact g_iret C hr hlk d_T_status_42 (fst_of hF) (congrArg (WC a cs) (snd_of hF))
  replace hF := ite_f hF h2
  have q0 := ne_toInt ti_0 h0
  have q1 := ne_toInt ti_1 h1
  have q2 := ne_toInt ti_2 h2
  refine g_tblOut C 43 d_T_status_1 (by omega) (by decide) ?_
  refine g_aload_n (pc1 := 44) C d_T_status_43 rfl rfl 0 rfl ?_
  refine g_iconst (pc1 := 45) (v := (-1 : Int32)) C d_T_status_44 rfl ic_m1 ?_
  obtain ⟨⟨r1, m1⟩, hm1, hF⟩ := bnd_some hF
  refine g_callVI (pc1 := 48) (ws1 := WC a cs m1) (As := [.int (-1 : Int32)]) (rest := []) (b := a 0) C hK 1 (c_T_bad l D cs a μ (-1 : Int32) r1 m1 hm1) s_T_bad kw_15 0 rfl rfl rfl ⟨Nat.le_of_ble_eq_true rfl, Nat.le_of_ble_eq_true rfl⟩ ⟨rfl, rfl⟩ d_T_status_45 rfl rfl (Nat.le_of_ble_eq_true rfl) ?_
  exact g_iret C hr hlk d_T_status_48 (fst_of hF) (congrArg (WC a cs) (snd_of hF))
-- TentPegs.counted(I)I
set_option maxHeartbeats 4000000 in
set_option maxRecDepth 100000 in
theorem c_T_counted (l : Launch) (D : va_G) (cs : Nat → ClassId) (a : Nat → Nat) (μ : Mem) (x1 : Int32) (r : Int32) (hF : F_T_counted μ x1 = some r) : MetI l y_T_counted b_T_counted 2 (some .int) { frames := 1, cells := 0, slots := 0, locals := 20 } D cs (AC a) (WC a cs μ) [.ref (a 0), .int x1] r (WC a cs μ) := by
  refine met_of rfl (by decide +kernel) (Nat.le_of_ble_eq_true rfl) (fun p e s m below meth c C hK hr hlk => ?_)
  unfold F_T_counted at hF
  show G p l e { frames := 1, cells := 0, slots := 0, locals := 20 } s m _ below meth c _ D (AC a) 2 (WC a cs μ) 0 [(0, .ref (a 0)), (1, .int x1)] []
  refine g_iload_n (pc1 := 1) C d_T_counted_0 rfl rfl 1 rfl ?_
  by_cases h0 : x1 = (0 : Int32)
  · replace hF := ite_t hF h0
    refine g_tblIn C 36 d_T_counted_1 0 (by rw [h0]; exact ti_0) (by decide) (by decide) rfl (by decide) ?_
    refine g_aload_n (pc1 := 37) C d_T_counted_36 rfl rfl 0 rfl ?_
    refine get_WC_0_field (pc1 := 40) C hK kw_12 d_T_counted_37 rfl ?_
    refine get_WC_1_pegs (pc1 := 43) C hK (v := (μ.1 1 0)) rfl kw_13 d_T_counted_40 rfl ?_
    exact g_iret C hr hlk d_T_counted_43 (Option.some.inj hF) rfl
  replace hF := ite_f hF h0
  by_cases h1 : x1 = (1 : Int32)
  · replace hF := ite_t hF h1
    refine g_tblIn C 44 d_T_counted_1 1 (by rw [h1]; exact ti_1) (by decide) (by decide) rfl (by decide) ?_
    refine g_aload_n (pc1 := 45) C d_T_counted_44 rfl rfl 0 rfl ?_
    refine get_WC_0_field (pc1 := 48) C hK kw_12 d_T_counted_45 rfl ?_
    refine get_WC_1_standing (pc1 := 51) C hK (v := (μ.1 1 3)) rfl kw_78 d_T_counted_48 rfl ?_
    obtain ⟨r1, hr1, hF⟩ := bnd_some hF
    refine g_callSI (pc1 := 54) (As := [.int (μ.1 1 3)]) (rest := []) C 1 (c_JI_bitCount l (μ.1 1 3) r1 hr1) s_JI_bitCount kw_38 rfl ⟨Nat.le_of_ble_eq_true rfl, Nat.le_of_ble_eq_true rfl⟩ ⟨rfl, rfl⟩ d_T_counted_51 rfl rfl (Nat.le_of_ble_eq_true rfl) ?_
    exact g_iret C hr hlk d_T_counted_54 (Option.some.inj hF) rfl
  replace hF := ite_f hF h1
  by_cases h2 : x1 = (2 : Int32)
  · replace hF := ite_t hF h2
    refine g_tblIn C 55 d_T_counted_1 2 (by rw [h2]; exact ti_2) (by decide) (by decide) rfl (by decide) ?_
    refine g_aload_n (pc1 := 56) C d_T_counted_55 rfl rfl 0 rfl ?_
    refine get_WC_0_field (pc1 := 59) C hK kw_12 d_T_counted_56 rfl ?_
    refine get_WC_1_wetness (pc1 := 62) C hK (v := (μ.1 1 1)) rfl kw_21 d_T_counted_59 rfl ?_
    exact g_iret C hr hlk d_T_counted_62 (Option.some.inj hF) rfl
  replace hF := ite_f hF h2
  by_cases h3 : x1 = (3 : Int32)
  · replace hF := ite_t hF h3
    refine g_tblIn C 63 d_T_counted_1 3 (by rw [h3]; exact ti_3) (by decide) (by decide) rfl (by decide) ?_
    refine g_aload_n (pc1 := 64) C d_T_counted_63 rfl rfl 0 rfl ?_
    refine get_WC_0_field (pc1 := 67) C hK kw_12 d_T_counted_64 rfl ?_
    refine get_WC_1_walls (pc1 := 70) C hK (v := (μ.1 1 2)) rfl kw_165 d_T_counted_67 rfl ?_
    exact g_iret C hr hlk d_T_counted_70 (Option.some.inj hF) rfl
  replace hF := ite_f hF h3
  by_cases h4 : x1 = (4 : Int32)
  · replace hF := ite_t hF h4
    refine g_tblIn C 71 d_T_counted_1 4 (by rw [h4]; exact ti_4) (by decide) (by decide) rfl (by decide) ?_
    refine g_aload_n (pc1 := 72) C d_T_counted_71 rfl rfl 0 rfl ?_
    refine get_WC_0_field (pc1 := 75) C hK kw_12 d_T_counted_72 rfl ?_
    refine get_WC_1_undoable (pc1 := 78) C hK (v := (μ.1 1 4)) rfl kw_166 d_T_counted_75 rfl ?_
    exact g_iret C hr hlk d_T_counted_78 (Option.some.inj hF) rfl
  replace hF := ite_f hF h4
  have q0 := ne_toInt ti_0 h0
  have q1 := ne_toInt ti_1 h1
  have q2 := ne_toInt ti_2 h2
  have q3 := ne_toInt ti_3 h3
  have q4 := ne_toInt ti_4 h4
  refine g_tblOut C 79 d_T_counted_1 (by omega) (by decide) ?_
  refine g_aload_n (pc1 := 80) C d_T_counted_79 rfl rfl 0 rfl ?_
  refine get_WC_0_typed (pc1 := 83) C hK (v := (μ.1 0 7)) rfl kw_31 d_T_counted_80 rfl ?_
  exact g_iret C hr hlk d_T_counted_83 (Option.some.inj hF) rfl
-- TentPegs.count(I)I
set_option maxHeartbeats 4000000 in
set_option maxRecDepth 100000 in
theorem c_T_count (l : Launch) (D : va_G) (cs : Nat → ClassId) (a : Nat → Nat) (μ : Mem) (x1 : Int32) (r : Int32) (μ1 : Mem) (hF : F_T_count μ x1 = some (r, μ1)) : MetI l y_T_count b_T_count 2 (some .int) { frames := 2, cells := 0, slots := 0, locals := 41 } D cs (AC a) (WC a cs μ) [.ref (a 0), .int x1] r (WC a cs μ1) := by
  refine met_of rfl (by decide +kernel) (Nat.le_of_ble_eq_true rfl) (fun p e s m below meth c C hK hr hlk => ?_)
  unfold F_T_count at hF
  show G p l e { frames := 2, cells := 0, slots := 0, locals := 41 } s m _ below meth c _ D (AC a) 2 (WC a cs μ) 0 [(0, .ref (a 0)), (1, .int x1)] []
  refine g_iload_n (pc1 := 1) C d_T_count_0 rfl rfl 1 rfl ?_
  refine g_iconst (pc1 := 2) (v := (0 : Int32)) C d_T_count_1 rfl ic_0 ?_
  refine g_iconst (pc1 := 3) (v := (5 : Int32)) C d_T_count_2 rfl ic_5 ?_
  obtain ⟨r1, hr1, hF⟩ := bnd_some hF
  refine g_callSI (pc1 := 6) (As := [.int x1, .int (0 : Int32), .int (5 : Int32)]) (rest := []) C 3 (c_T_within l x1 (0 : Int32) (5 : Int32) r1 hr1) s_T_within kw_22 rfl ⟨Nat.le_of_ble_eq_true rfl, Nat.le_of_ble_eq_true rfl⟩ ⟨rfl, rfl⟩ d_T_count_3 rfl rfl (Nat.le_of_ble_eq_true rfl) ?_
  refine g_if_eq (pc1 := 9) C 17 d_T_count_6 rfl (by decide) (fun c1 => ?_) (fun c1 => ?_)
  · replace hF := ite_t hF c1
    refine g_aload_n (pc1 := 18) C d_T_count_17 rfl rfl 0 rfl ?_
    refine g_bipush (pc1 := 20) (v := (-2 : Int32)) C d_T_count_18 rfl bp_m2 ?_
    obtain ⟨⟨r2, m2⟩, hm2, hF⟩ := bnd_some hF
    refine g_callVI (pc1 := 23) (ws1 := WC a cs m2) (As := [.int (-2 : Int32)]) (rest := []) (b := a 0) C hK 1 (c_T_bad l D cs a μ (-2 : Int32) r2 m2 hm2) s_T_bad kw_15 0 rfl rfl rfl ⟨Nat.le_of_ble_eq_true rfl, Nat.le_of_ble_eq_true rfl⟩ ⟨rfl, rfl⟩ d_T_count_20 rfl rfl (Nat.le_of_ble_eq_true rfl) ?_
    exact g_iret C hr hlk d_T_count_23 (fst_of hF) (congrArg (WC a cs) (snd_of hF))
  · replace hF := ite_f hF c1
    refine g_aload_n (pc1 := 10) C d_T_count_9 rfl rfl 0 rfl ?_
    refine g_iload_n (pc1 := 11) C d_T_count_10 rfl rfl 1 rfl ?_
    obtain ⟨r3, hr3, hF⟩ := bnd_some hF
    refine g_callVI (pc1 := 14) (ws1 := WC a cs μ) (As := [.int x1]) (rest := []) (b := a 0) C hK 1 (c_T_counted l D cs a μ x1 r3 hr3) s_T_counted kw_167 0 rfl rfl rfl ⟨Nat.le_of_ble_eq_true rfl, Nat.le_of_ble_eq_true rfl⟩ ⟨rfl, rfl⟩ d_T_count_11 rfl rfl (Nat.le_of_ble_eq_true rfl) ?_
    refine g_goto C 23 d_T_count_14 (by decide) ?_
    exact g_iret C hr hlk d_T_count_23 (fst_of hF) (congrArg (WC a cs) (snd_of hF))
-- TentPegs.digest()J
set_option maxHeartbeats 4000000 in
set_option maxRecDepth 100000 in
theorem p_T_digest_129 {p : Program} {l : Launch} {e : Env} {s : State} {m : MethodId} {args : Array Value} {below : List Frame} {meth : Method} {c : Code} {D : va_G} {cs : Nat → ClassId} {a : Nat → Nat} {μ : Mem} {r : Int64} (C : Cx p s m args c b_T_digest 4 "TentPegs") (hK : va_K D classes (tys cs) s) (hr : meth.sig.returnType = (some .long)) (hlk : meth.locks = false)  : ∀ (x1 : Int64) (x3 : Int32), F_T_digest_129  μ x1 x3 = some r → G p l e { frames := 2, cells := 0, slots := 0, locals := 41 } s m args below meth c (MQ below (Ql (AC a) D (WC a cs μ) r) args s 0 0 (AC a)) D (AC a) 4 (WC a cs μ) 129 [(0, .ref (a 0)), (1, .long x1), (3, .int x3)] [] := by
  refine iter_ind (fun (K129 : Mem → Int64 → Int32 → Option Int64) => ∀ (x1 : Int64) (x3 : Int32), K129 μ x1 x3 = some r → G p l e { frames := 2, cells := 0, slots := 0, locals := 41 } s m args below meth c (MQ below (Ql (AC a) D (WC a cs μ) r) args s 0 0 (AC a)) D (AC a) 4 (WC a cs μ) 129 [(0, .ref (a 0)), (1, .long x1), (3, .int x3)] []) ?_ ?_ NF
  · intro x1 x3 hF
    exact none_no hF
  · intro K129 hK129 x1 x3 hF
    unfold S_T_digest_129 at hF
    refine g_iload_n (pc1 := 130) C d_T_digest_129 rfl rfl 2 rfl ?_
    refine g_bipush (pc1 := 132) (v := (8 : Int32)) C d_T_digest_130 rfl bp_8 ?_
    refine g_icmp_ge (pc1 := 135) C 158 d_T_digest_132 rfl (by decide) (fun c1 => ?_) (fun c1 => ?_)
    · replace hF := ite_t hF c1
      refine g_ldc2 (pc1 := 161) (v := (31 : Int64)) C d_T_digest_158 rfl kw_169 ?_
      refine g_lload_n (pc1 := 162) C d_T_digest_161 rfl rfl 1 rfl ?_
      refine g_lmul (pc1 := 163) C d_T_digest_162 rfl ?_
      refine g_aload_n (pc1 := 164) C d_T_digest_163 rfl rfl 0 rfl ?_
      refine get_WC_0_above (pc1 := 167) C hK (v := (μ.1 0 8)) rfl kw_120 d_T_digest_164 rfl ?_
      refine g_i2l (pc1 := 168) C d_T_digest_167 rfl ?_
      refine g_ladd (pc1 := 169) C d_T_digest_168 rfl ?_
      refine g_lstore_n (pc1 := 170) (L1 := [(1, .long (((31 : Int64) * x1) + ((μ.1 0 8).toInt64))), (0, .ref (a 0)), (3, .int x3)]) C d_T_digest_169 rfl rfl (by decide) rfl ?_
      refine g_ldc2 (pc1 := 173) (v := (31 : Int64)) C d_T_digest_170 rfl kw_169 ?_
      refine g_lload_n (pc1 := 174) C d_T_digest_173 rfl rfl 0 rfl ?_
      refine g_lmul (pc1 := 175) C d_T_digest_174 rfl ?_
      refine g_aload_n (pc1 := 176) C d_T_digest_175 rfl rfl 1 rfl ?_
      refine get_WC_0_below (pc1 := 179) C hK (v := (μ.1 0 9)) rfl kw_121 d_T_digest_176 rfl ?_
      refine g_i2l (pc1 := 180) C d_T_digest_179 rfl ?_
      refine g_ladd (pc1 := 181) C d_T_digest_180 rfl ?_
      exact g_lret C hr hlk d_T_digest_181 (Option.some.inj hF) rfl
    · replace hF := ite_f hF c1
      refine g_ldc2 (pc1 := 138) (v := (31 : Int64)) C d_T_digest_135 rfl kw_169 ?_
      refine g_lload_n (pc1 := 139) C d_T_digest_138 rfl rfl 1 rfl ?_
      refine g_lmul (pc1 := 140) C d_T_digest_139 rfl ?_
      refine g_aload_n (pc1 := 141) C d_T_digest_140 rfl rfl 0 rfl ?_
      refine get_WC_0_field (pc1 := 144) C hK kw_12 d_T_digest_141 rfl ?_
      refine get_WC_1_chances (pc1 := 147) C hK kw_29 d_T_digest_144 rfl ?_
      refine g_iload_n (pc1 := 148) C d_T_digest_147 rfl rfl 2 rfl ?_
      have hg := gd_some hF
      replace hF := hg.2
      refine g_iald (pc1 := 149) C hK 5 (f := (μ.1 5)) rfl hg.1 d_T_digest_148 rfl ?_
      refine g_i2l (pc1 := 150) C d_T_digest_149 rfl ?_
      refine g_ladd (pc1 := 151) C d_T_digest_150 rfl ?_
      refine g_lstore_n (pc1 := 152) (L1 := [(1, .long (((31 : Int64) * x1) + (((μ.1 5) x3.toNatClampNeg).toInt64))), (0, .ref (a 0)), (3, .int x3)]) C d_T_digest_151 rfl rfl (by decide) rfl ?_
      refine g_iinc (pc1 := 155) (v := (x3 + (1 : Int32))) (L1 := [(3, .int (x3 + (1 : Int32))), (1, .long (((31 : Int64) * x1) + (((μ.1 5) x3.toNatClampNeg).toInt64))), (0, .ref (a 0))]) C d_T_digest_152 rfl 2 rfl (by rw [ic_1]) (by decide) rfl ?_
      refine g_goto C 129 d_T_digest_155 (by decide) ?_
      exact g_sub [2, 1, 0] rfl (hK129 (((31 : Int64) * x1) + (((μ.1 5) x3.toNatClampNeg).toInt64)) (x3 + (1 : Int32)) hF)
set_option maxHeartbeats 4000000 in
set_option maxRecDepth 100000 in
theorem p_T_digest_32 {p : Program} {l : Launch} {e : Env} {s : State} {m : MethodId} {args : Array Value} {below : List Frame} {meth : Method} {c : Code} {D : va_G} {cs : Nat → ClassId} {a : Nat → Nat} {μ : Mem} {r : Int64} (C : Cx p s m args c b_T_digest 4 "TentPegs") (hK : va_K D classes (tys cs) s) (hr : meth.sig.returnType = (some .long)) (hlk : meth.locks = false)  : ∀ (x1 : Int64) (x3 : Int32), F_T_digest_32  μ x1 x3 = some r → G p l e { frames := 2, cells := 0, slots := 0, locals := 41 } s m args below meth c (MQ below (Ql (AC a) D (WC a cs μ) r) args s 0 0 (AC a)) D (AC a) 4 (WC a cs μ) 32 [(0, .ref (a 0)), (1, .long x1), (3, .int x3)] [] := by
  refine iter_ind (fun (K32 : Mem → Int64 → Int32 → Option Int64) => ∀ (x1 : Int64) (x3 : Int32), K32 μ x1 x3 = some r → G p l e { frames := 2, cells := 0, slots := 0, locals := 41 } s m args below meth c (MQ below (Ql (AC a) D (WC a cs μ) r) args s 0 0 (AC a)) D (AC a) 4 (WC a cs μ) 32 [(0, .ref (a 0)), (1, .long x1), (3, .int x3)] []) ?_ ?_ NF
  · intro x1 x3 hF
    exact none_no hF
  · intro K32 hK32 x1 x3 hF
    unfold S_T_digest_32 at hF
    refine g_iload_n (pc1 := 33) C d_T_digest_32 rfl rfl 2 rfl ?_
    refine g_aload_n (pc1 := 34) C d_T_digest_33 rfl rfl 0 rfl ?_
    refine get_WC_0_field (pc1 := 37) C hK kw_12 d_T_digest_34 rfl ?_
    refine get_WC_1_pegs (pc1 := 40) C hK (v := (μ.1 1 0)) rfl kw_13 d_T_digest_37 rfl ?_
    refine g_icmp_ge (pc1 := 43) C 127 d_T_digest_40 rfl (by decide) (fun c1 => ?_) (fun c1 => ?_)
    · replace hF := ite_t hF c1
      refine g_iconst (pc1 := 128) (v := (0 : Int32)) C d_T_digest_127 rfl ic_0 ?_
      refine g_istore_n (pc1 := 129) (L1 := [(3, .int (0 : Int32)), (0, .ref (a 0)), (1, .long x1)]) C d_T_digest_128 rfl rfl (by decide) rfl ?_
      exact g_sub [1, 2, 0] rfl (p_T_digest_129 C hK hr hlk  x1 (0 : Int32) hF)
    · replace hF := ite_f hF c1
      refine g_ldc2 (pc1 := 46) (v := (31 : Int64)) C d_T_digest_43 rfl kw_169 ?_
      refine g_lload_n (pc1 := 47) C d_T_digest_46 rfl rfl 1 rfl ?_
      refine g_lmul (pc1 := 48) C d_T_digest_47 rfl ?_
      refine g_aload_n (pc1 := 49) C d_T_digest_48 rfl rfl 0 rfl ?_
      refine get_WC_0_field (pc1 := 52) C hK kw_12 d_T_digest_49 rfl ?_
      refine get_WC_1_kinds (pc1 := 55) C hK kw_18 d_T_digest_52 rfl ?_
      refine g_iload_n (pc1 := 56) C d_T_digest_55 rfl rfl 2 rfl ?_
      have hg := gd_some hF
      replace hF := hg.2
      refine g_iald (pc1 := 57) C hK 2 (f := (μ.1 2)) rfl hg.1 d_T_digest_56 rfl ?_
      refine g_i2l (pc1 := 58) C d_T_digest_57 rfl ?_
      refine g_ladd (pc1 := 59) C d_T_digest_58 rfl ?_
      refine g_lstore_n (pc1 := 60) (L1 := [(1, .long (((31 : Int64) * x1) + (((μ.1 2) x3.toNatClampNeg).toInt64))), (0, .ref (a 0)), (3, .int x3)]) C d_T_digest_59 rfl rfl (by decide) rfl ?_
      refine g_ldc2 (pc1 := 63) (v := (31 : Int64)) C d_T_digest_60 rfl kw_169 ?_
      refine g_lload_n (pc1 := 64) C d_T_digest_63 rfl rfl 0 rfl ?_
      refine g_lmul (pc1 := 65) C d_T_digest_64 rfl ?_
      refine g_aload_n (pc1 := 66) C d_T_digest_65 rfl rfl 1 rfl ?_
      refine get_WC_0_field (pc1 := 69) C hK kw_12 d_T_digest_66 rfl ?_
      refine get_WC_1_depths (pc1 := 72) C hK kw_89 d_T_digest_69 rfl ?_
      refine g_iload_n (pc1 := 73) C d_T_digest_72 rfl rfl 2 rfl ?_
      have hg := gd_some hF
      replace hF := hg.2
      refine g_iald (pc1 := 74) C hK 3 (f := (μ.1 3)) rfl hg.1 d_T_digest_73 rfl ?_
      refine g_i2l (pc1 := 75) C d_T_digest_74 rfl ?_
      refine g_ladd (pc1 := 76) C d_T_digest_75 rfl ?_
      refine g_lstore_n (pc1 := 77) (L1 := [(1, .long (((31 : Int64) * (((31 : Int64) * x1) + (((μ.1 2) x3.toNatClampNeg).toInt64))) + (((μ.1 3) x3.toNatClampNeg).toInt64))), (0, .ref (a 0)), (3, .int x3)]) C d_T_digest_76 rfl rfl (by decide) rfl ?_
      refine g_ldc2 (pc1 := 80) (v := (31 : Int64)) C d_T_digest_77 rfl kw_169 ?_
      refine g_lload_n (pc1 := 81) C d_T_digest_80 rfl rfl 0 rfl ?_
      refine g_lmul (pc1 := 82) C d_T_digest_81 rfl ?_
      refine g_aload_n (pc1 := 83) C d_T_digest_82 rfl rfl 1 rfl ?_
      refine get_WC_0_field (pc1 := 86) C hK kw_12 d_T_digest_83 rfl ?_
      refine get_WC_1_grounds (pc1 := 89) C hK kw_90 d_T_digest_86 rfl ?_
      refine g_iload_n (pc1 := 90) C d_T_digest_89 rfl rfl 2 rfl ?_
      have hg := gd_some hF
      replace hF := hg.2
      refine g_iald (pc1 := 91) C hK 4 (f := (μ.1 4)) rfl hg.1 d_T_digest_90 rfl ?_
      refine g_i2l (pc1 := 92) C d_T_digest_91 rfl ?_
      refine g_ladd (pc1 := 93) C d_T_digest_92 rfl ?_
      refine g_lstore_n (pc1 := 94) (L1 := [(1, .long (((31 : Int64) * (((31 : Int64) * (((31 : Int64) * x1) + (((μ.1 2) x3.toNatClampNeg).toInt64))) + (((μ.1 3) x3.toNatClampNeg).toInt64))) + (((μ.1 4) x3.toNatClampNeg).toInt64))), (0, .ref (a 0)), (3, .int x3)]) C d_T_digest_93 rfl rfl (by decide) rfl ?_
      refine g_ldc2 (pc1 := 97) (v := (31 : Int64)) C d_T_digest_94 rfl kw_169 ?_
      refine g_lload_n (pc1 := 98) C d_T_digest_97 rfl rfl 0 rfl ?_
      refine g_lmul (pc1 := 99) C d_T_digest_98 rfl ?_
      refine g_aload_n (pc1 := 100) C d_T_digest_99 rfl rfl 1 rfl ?_
      refine get_WC_0_field (pc1 := 103) C hK kw_12 d_T_digest_100 rfl ?_
      refine get_WC_1_standing (pc1 := 106) C hK (v := (μ.1 1 3)) rfl kw_78 d_T_digest_103 rfl ?_
      refine g_iload_n (pc1 := 107) C d_T_digest_106 rfl rfl 2 rfl ?_
      obtain ⟨r1, hr1, hF⟩ := bnd_some hF
      refine g_callSI (pc1 := 110) (As := [.int (μ.1 1 3), .int x3]) (rest := [.long ((31 : Int64) * (((31 : Int64) * (((31 : Int64) * (((31 : Int64) * x1) + (((μ.1 2) x3.toNatClampNeg).toInt64))) + (((μ.1 3) x3.toNatClampNeg).toInt64))) + (((μ.1 4) x3.toNatClampNeg).toInt64)))]) C 2 (c_T_has l (μ.1 1 3) x3 r1 hr1) s_T_has kw_86 rfl ⟨Nat.le_of_ble_eq_true rfl, Nat.le_of_ble_eq_true rfl⟩ ⟨rfl, rfl⟩ d_T_digest_107 rfl rfl (Nat.le_of_ble_eq_true rfl) ?_
      refine g_if_eq (pc1 := 113) C 117 d_T_digest_110 rfl (by decide) (fun c1 => ?_) (fun c1 => ?_)
      · replace hF := ite_t hF c1
        refine g_iconst (pc1 := 118) (v := (0 : Int32)) C d_T_digest_117 rfl ic_0 ?_
        refine g_i2l (pc1 := 119) C d_T_digest_118 rfl ?_
        refine g_ladd (pc1 := 120) C d_T_digest_119 rfl ?_
        refine g_lstore_n (pc1 := 121) (L1 := [(1, .long (((31 : Int64) * (((31 : Int64) * (((31 : Int64) * (((31 : Int64) * x1) + (((μ.1 2) x3.toNatClampNeg).toInt64))) + (((μ.1 3) x3.toNatClampNeg).toInt64))) + (((μ.1 4) x3.toNatClampNeg).toInt64))) + ((0 : Int32).toInt64))), (0, .ref (a 0)), (3, .int x3)]) C d_T_digest_120 rfl rfl (by decide) rfl ?_
        refine g_iinc (pc1 := 124) (v := (x3 + (1 : Int32))) (L1 := [(3, .int (x3 + (1 : Int32))), (1, .long (((31 : Int64) * (((31 : Int64) * (((31 : Int64) * (((31 : Int64) * x1) + (((μ.1 2) x3.toNatClampNeg).toInt64))) + (((μ.1 3) x3.toNatClampNeg).toInt64))) + (((μ.1 4) x3.toNatClampNeg).toInt64))) + ((0 : Int32).toInt64))), (0, .ref (a 0))]) C d_T_digest_121 rfl 2 rfl (by rw [ic_1]) (by decide) rfl ?_
        refine g_goto C 32 d_T_digest_124 (by decide) ?_
        exact g_sub [2, 1, 0] rfl (hK32 (((31 : Int64) * (((31 : Int64) * (((31 : Int64) * (((31 : Int64) * x1) + (((μ.1 2) x3.toNatClampNeg).toInt64))) + (((μ.1 3) x3.toNatClampNeg).toInt64))) + (((μ.1 4) x3.toNatClampNeg).toInt64))) + ((0 : Int32).toInt64)) (x3 + (1 : Int32)) hF)
      · replace hF := ite_f hF c1
        refine g_iconst (pc1 := 114) (v := (1 : Int32)) C d_T_digest_113 rfl ic_1 ?_
        refine g_goto C 118 d_T_digest_114 (by decide) ?_
        refine g_i2l (pc1 := 119) C d_T_digest_118 rfl ?_
        refine g_ladd (pc1 := 120) C d_T_digest_119 rfl ?_
        refine g_lstore_n (pc1 := 121) (L1 := [(1, .long (((31 : Int64) * (((31 : Int64) * (((31 : Int64) * (((31 : Int64) * x1) + (((μ.1 2) x3.toNatClampNeg).toInt64))) + (((μ.1 3) x3.toNatClampNeg).toInt64))) + (((μ.1 4) x3.toNatClampNeg).toInt64))) + ((1 : Int32).toInt64))), (0, .ref (a 0)), (3, .int x3)]) C d_T_digest_120 rfl rfl (by decide) rfl ?_
        refine g_iinc (pc1 := 124) (v := (x3 + (1 : Int32))) (L1 := [(3, .int (x3 + (1 : Int32))), (1, .long (((31 : Int64) * (((31 : Int64) * (((31 : Int64) * (((31 : Int64) * x1) + (((μ.1 2) x3.toNatClampNeg).toInt64))) + (((μ.1 3) x3.toNatClampNeg).toInt64))) + (((μ.1 4) x3.toNatClampNeg).toInt64))) + ((1 : Int32).toInt64))), (0, .ref (a 0))]) C d_T_digest_121 rfl 2 rfl (by rw [ic_1]) (by decide) rfl ?_
        refine g_goto C 32 d_T_digest_124 (by decide) ?_
        exact g_sub [2, 1, 0] rfl (hK32 (((31 : Int64) * (((31 : Int64) * (((31 : Int64) * (((31 : Int64) * x1) + (((μ.1 2) x3.toNatClampNeg).toInt64))) + (((μ.1 3) x3.toNatClampNeg).toInt64))) + (((μ.1 4) x3.toNatClampNeg).toInt64))) + ((1 : Int32).toInt64)) (x3 + (1 : Int32)) hF)
set_option maxHeartbeats 4000000 in
set_option maxRecDepth 100000 in
theorem p_T_digest_6 {p : Program} {l : Launch} {e : Env} {s : State} {m : MethodId} {args : Array Value} {below : List Frame} {meth : Method} {c : Code} {D : va_G} {cs : Nat → ClassId} {a : Nat → Nat} {μ : Mem} {r : Int64} (C : Cx p s m args c b_T_digest 4 "TentPegs") (hK : va_K D classes (tys cs) s) (hr : meth.sig.returnType = (some .long)) (hlk : meth.locks = false)  : ∀ (x1 : Int64) (x3 : Int32), F_T_digest_6  μ x1 x3 = some r → G p l e { frames := 2, cells := 0, slots := 0, locals := 41 } s m args below meth c (MQ below (Ql (AC a) D (WC a cs μ) r) args s 0 0 (AC a)) D (AC a) 4 (WC a cs μ) 6 [(0, .ref (a 0)), (1, .long x1), (3, .int x3)] [] := by
  refine iter_ind (fun (K6 : Mem → Int64 → Int32 → Option Int64) => ∀ (x1 : Int64) (x3 : Int32), K6 μ x1 x3 = some r → G p l e { frames := 2, cells := 0, slots := 0, locals := 41 } s m args below meth c (MQ below (Ql (AC a) D (WC a cs μ) r) args s 0 0 (AC a)) D (AC a) 4 (WC a cs μ) 6 [(0, .ref (a 0)), (1, .long x1), (3, .int x3)] []) ?_ ?_ NF
  · intro x1 x3 hF
    exact none_no hF
  · intro K6 hK6 x1 x3 hF
    unfold S_T_digest_6 at hF
    refine g_iload_n (pc1 := 7) C d_T_digest_6 rfl rfl 2 rfl ?_
    refine g_iconst (pc1 := 8) (v := (5 : Int32)) C d_T_digest_7 rfl ic_5 ?_
    refine g_icmp_gt (pc1 := 11) C 30 d_T_digest_8 rfl (by decide) (fun c1 => ?_) (fun c1 => ?_)
    · replace hF := ite_t hF c1
      refine g_iconst (pc1 := 31) (v := (0 : Int32)) C d_T_digest_30 rfl ic_0 ?_
      refine g_istore_n (pc1 := 32) (L1 := [(3, .int (0 : Int32)), (0, .ref (a 0)), (1, .long x1)]) C d_T_digest_31 rfl rfl (by decide) rfl ?_
      exact g_sub [1, 2, 0] rfl (p_T_digest_32 C hK hr hlk  x1 (0 : Int32) hF)
    · replace hF := ite_f hF c1
      refine g_ldc2 (pc1 := 14) (v := (31 : Int64)) C d_T_digest_11 rfl kw_169 ?_
      refine g_lload_n (pc1 := 15) C d_T_digest_14 rfl rfl 1 rfl ?_
      refine g_lmul (pc1 := 16) C d_T_digest_15 rfl ?_
      refine g_aload_n (pc1 := 17) C d_T_digest_16 rfl rfl 0 rfl ?_
      refine g_iload_n (pc1 := 18) C d_T_digest_17 rfl rfl 2 rfl ?_
      obtain ⟨r1, hr1, hF⟩ := bnd_some hF
      refine g_callVI (pc1 := 21) (ws1 := WC a cs μ) (As := [.int x3]) (rest := [.long ((31 : Int64) * x1)]) (b := a 0) C hK 1 (c_T_counted l D cs a μ x3 r1 hr1) s_T_counted kw_167 0 rfl rfl rfl ⟨Nat.le_of_ble_eq_true rfl, Nat.le_of_ble_eq_true rfl⟩ ⟨rfl, rfl⟩ d_T_digest_18 rfl rfl (Nat.le_of_ble_eq_true rfl) ?_
      refine g_i2l (pc1 := 22) C d_T_digest_21 rfl ?_
      refine g_ladd (pc1 := 23) C d_T_digest_22 rfl ?_
      refine g_lstore_n (pc1 := 24) (L1 := [(1, .long (((31 : Int64) * x1) + (r1.toInt64))), (0, .ref (a 0)), (3, .int x3)]) C d_T_digest_23 rfl rfl (by decide) rfl ?_
      refine g_iinc (pc1 := 27) (v := (x3 + (1 : Int32))) (L1 := [(3, .int (x3 + (1 : Int32))), (1, .long (((31 : Int64) * x1) + (r1.toInt64))), (0, .ref (a 0))]) C d_T_digest_24 rfl 2 rfl (by rw [ic_1]) (by decide) rfl ?_
      refine g_goto C 6 d_T_digest_27 (by decide) ?_
      exact g_sub [2, 1, 0] rfl (hK6 (((31 : Int64) * x1) + (r1.toInt64)) (x3 + (1 : Int32)) hF)
set_option maxHeartbeats 4000000 in
set_option maxRecDepth 100000 in
theorem c_T_digest (l : Launch) (D : va_G) (cs : Nat → ClassId) (a : Nat → Nat) (μ : Mem)  (r : Int64) (hF : F_T_digest μ = some r) : MetL l y_T_digest b_T_digest 4 (some .long) { frames := 2, cells := 0, slots := 0, locals := 41 } D cs (AC a) (WC a cs μ) [.ref (a 0)] r (WC a cs μ) := by
  refine met_of rfl (by decide +kernel) (Nat.le_of_ble_eq_true rfl) (fun p e s m below meth c C hK hr hlk => ?_)
  unfold F_T_digest at hF
  show G p l e { frames := 2, cells := 0, slots := 0, locals := 41 } s m _ below meth c _ D (AC a) 4 (WC a cs μ) 0 [(0, .ref (a 0))] []
  refine g_ldc2 (pc1 := 3) (v := (883 : Int64)) C d_T_digest_0 rfl kw_168 ?_
  refine g_lstore_n (pc1 := 4) (L1 := [(1, .long (883 : Int64)), (0, .ref (a 0))]) C d_T_digest_3 rfl rfl (by decide) rfl ?_
  refine g_iconst (pc1 := 5) (v := (0 : Int32)) C d_T_digest_4 rfl ic_0 ?_
  refine g_istore_n (pc1 := 6) (L1 := [(3, .int (0 : Int32)), (1, .long (883 : Int64)), (0, .ref (a 0))]) C d_T_digest_5 rfl rfl (by decide) rfl ?_
  exact g_sub [2, 1, 0] rfl (p_T_digest_6 C hK hr hlk  (883 : Int64) (0 : Int32) hF)
-- TentPegsModel.in(JJJ)Z
set_option maxHeartbeats 4000000 in
set_option maxRecDepth 100000 in
theorem c_M_in (l : Launch) (x0 : Int64) (x2 : Int64) (x4 : Int64) (r : Int32) (hF : F_M_in x0 x2 x4 = some r) : SetI l y_M_in b_M_in 6 (some .boolean) { frames := 0, cells := 0, slots := 0, locals := 0 } [.long x0, .long x2, .long x4] r := by
  refine met_ofS rfl (by decide +kernel) (Nat.le_of_ble_eq_true rfl) (fun p e s m below meth c C hr hlk => ?_)
  unfold F_M_in at hF
  show G p l e { frames := 0, cells := 0, slots := 0, locals := 0 } s m _ below meth c _ (fun _ => 0, fun _ _ => 0) (fun _ => False) 6 [] 0 [(0, .long x0), (2, .long x2), (4, .long x4)] []
  refine g_lload_n (pc1 := 1) C d_M_in_0 rfl rfl 0 rfl ?_
  refine g_lload_n (pc1 := 2) C d_M_in_1 rfl rfl 1 rfl ?_
  refine g_lcmp (pc1 := 3) C d_M_in_2 rfl ?_
  refine g_if_lt (pc1 := 6) C 17 d_M_in_3 rfl (by decide) (fun c1 => ?_) (fun c1 => ?_)
  · replace hF := ite_t hF c1
    refine g_iconst (pc1 := 18) (v := (0 : Int32)) C d_M_in_17 rfl ic_0 ?_
    exact g_zret C hr hlk rfl d_M_in_18 (Option.some.inj hF) rfl
  · replace hF := ite_f hF c1
    refine g_lload_n (pc1 := 7) C d_M_in_6 rfl rfl 0 rfl ?_
    refine g_lload (pc1 := 9) C d_M_in_7 rfl 2 rfl ?_
    refine g_lcmp (pc1 := 10) C d_M_in_9 rfl ?_
    refine g_if_gt (pc1 := 13) C 17 d_M_in_10 rfl (by decide) (fun c1 => ?_) (fun c1 => ?_)
    · replace hF := ite_t hF c1
      refine g_iconst (pc1 := 18) (v := (0 : Int32)) C d_M_in_17 rfl ic_0 ?_
      exact g_zret C hr hlk rfl d_M_in_18 (Option.some.inj hF) rfl
    · replace hF := ite_f hF c1
      refine g_iconst (pc1 := 14) (v := (1 : Int32)) C d_M_in_13 rfl ic_1 ?_
      refine g_goto C 18 d_M_in_14 (by decide) ?_
      exact g_zret C hr hlk rfl d_M_in_18 (Option.some.inj hF) rfl
-- TentPegsModel.has(II)Z
set_option maxHeartbeats 4000000 in
set_option maxRecDepth 100000 in
theorem c_M_has (l : Launch) (x0 : Int32) (x1 : Int32) (r : Int32) (hF : F_M_has x0 x1 = some r) : SetI l y_M_has b_M_has 2 (some .boolean) { frames := 0, cells := 0, slots := 0, locals := 0 } [.int x0, .int x1] r := by
  refine met_ofS rfl (by decide +kernel) (Nat.le_of_ble_eq_true rfl) (fun p e s m below meth c C hr hlk => ?_)
  unfold F_M_has at hF
  show G p l e { frames := 0, cells := 0, slots := 0, locals := 0 } s m _ below meth c _ (fun _ => 0, fun _ _ => 0) (fun _ => False) 2 [] 0 [(0, .int x0), (1, .int x1)] []
  refine g_iload_n (pc1 := 1) C d_M_has_0 rfl rfl 0 rfl ?_
  refine g_iload_n (pc1 := 2) C d_M_has_1 rfl rfl 1 rfl ?_
  refine g_ishr (pc1 := 3) C d_M_has_2 rfl ?_
  refine g_iconst (pc1 := 4) (v := (1 : Int32)) C d_M_has_3 rfl ic_1 ?_
  refine g_iand (pc1 := 5) C d_M_has_4 rfl ?_
  refine g_iconst (pc1 := 6) (v := (1 : Int32)) C d_M_has_5 rfl ic_1 ?_
  refine g_icmp_ne (pc1 := 9) C 13 d_M_has_6 rfl (by decide) (fun c1 => ?_) (fun c1 => ?_)
  · replace hF := ite_f hF c1
    refine g_iconst (pc1 := 14) (v := (0 : Int32)) C d_M_has_13 rfl ic_0 ?_
    exact g_zret C hr hlk rfl d_M_has_14 (Option.some.inj hF) rfl
  · replace hF := ite_t hF c1
    refine g_iconst (pc1 := 10) (v := (1 : Int32)) C d_M_has_9 rfl ic_1 ?_
    refine g_goto C 14 d_M_has_10 (by decide) ?_
    exact g_zret C hr hlk rfl d_M_has_14 (Option.some.inj hF) rfl
-- TentPegsModel.bits(I)I
set_option maxHeartbeats 4000000 in
set_option maxRecDepth 100000 in
theorem p_M_bits_4 {p : Program} {l : Launch} {e : Env} {s : State} {m : MethodId} {args : Array Value} {below : List Frame} {meth : Method} {c : Code} {r : Int32} (C : Cx p s m args c b_M_bits 3 "TentPegsModel") (hr : meth.sig.returnType = (some .int)) (hlk : meth.locks = false)  : ∀ (x0 : Int32) (x1 : Int32) (x2 : Int32), F_M_bits_4  x0 x1 x2 = some r → G p l e { frames := 0, cells := 0, slots := 0, locals := 0 } s m args below meth c (MQ below (Qi (fun _ => False) (fun _ => 0, fun _ _ => 0) [] r) args s 0 0 (fun _ => False)) (fun _ => 0, fun _ _ => 0) (fun _ => False) 3 [] 4 [(0, .int x0), (1, .int x1), (2, .int x2)] [] := by
  refine iter_ind (fun (K4 : Int32 → Int32 → Int32 → Option Int32) => ∀ (x0 : Int32) (x1 : Int32) (x2 : Int32), K4 x0 x1 x2 = some r → G p l e { frames := 0, cells := 0, slots := 0, locals := 0 } s m args below meth c (MQ below (Qi (fun _ => False) (fun _ => 0, fun _ _ => 0) [] r) args s 0 0 (fun _ => False)) (fun _ => 0, fun _ _ => 0) (fun _ => False) 3 [] 4 [(0, .int x0), (1, .int x1), (2, .int x2)] []) ?_ ?_ NF
  · intro x0 x1 x2 hF
    exact none_no hF
  · intro K4 hK4 x0 x1 x2 hF
    unfold S_M_bits_4 at hF
    refine g_iload_n (pc1 := 5) C d_M_bits_4 rfl rfl 2 rfl ?_
    refine g_bipush (pc1 := 7) (v := (8 : Int32)) C d_M_bits_5 rfl bp_8 ?_
    refine g_icmp_ge (pc1 := 10) C 24 d_M_bits_7 rfl (by decide) (fun c1 => ?_) (fun c1 => ?_)
    · replace hF := ite_t hF c1
      refine g_iload_n (pc1 := 25) C d_M_bits_24 rfl rfl 1 rfl ?_
      exact g_iret C hr hlk d_M_bits_25 (Option.some.inj hF) rfl
    · replace hF := ite_f hF c1
      refine g_iload_n (pc1 := 11) C d_M_bits_10 rfl rfl 1 rfl ?_
      refine g_iload_n (pc1 := 12) C d_M_bits_11 rfl rfl 0 rfl ?_
      refine g_iload_n (pc1 := 13) C d_M_bits_12 rfl rfl 2 rfl ?_
      refine g_ishr (pc1 := 14) C d_M_bits_13 rfl ?_
      refine g_iconst (pc1 := 15) (v := (1 : Int32)) C d_M_bits_14 rfl ic_1 ?_
      refine g_iand (pc1 := 16) C d_M_bits_15 rfl ?_
      refine g_iadd (pc1 := 17) C d_M_bits_16 rfl ?_
      refine g_istore_n (pc1 := 18) (L1 := [(1, .int (x1 + ((x0 >>> (x2 &&& 31)) &&& (1 : Int32)))), (0, .int x0), (2, .int x2)]) C d_M_bits_17 rfl rfl (by decide) rfl ?_
      refine g_iinc (pc1 := 21) (v := (x2 + (1 : Int32))) (L1 := [(2, .int (x2 + (1 : Int32))), (1, .int (x1 + ((x0 >>> (x2 &&& 31)) &&& (1 : Int32)))), (0, .int x0)]) C d_M_bits_18 rfl 2 rfl (by rw [ic_1]) (by decide) rfl ?_
      refine g_goto C 4 d_M_bits_21 (by decide) ?_
      exact g_sub [2, 1, 0] rfl (hK4 x0 (x1 + ((x0 >>> (x2 &&& 31)) &&& (1 : Int32))) (x2 + (1 : Int32)) hF)
set_option maxHeartbeats 4000000 in
set_option maxRecDepth 100000 in
theorem c_M_bits (l : Launch) (x0 : Int32) (r : Int32) (hF : F_M_bits x0 = some r) : SetI l y_M_bits b_M_bits 3 (some .int) { frames := 0, cells := 0, slots := 0, locals := 0 } [.int x0] r := by
  refine met_ofS rfl (by decide +kernel) (Nat.le_of_ble_eq_true rfl) (fun p e s m below meth c C hr hlk => ?_)
  unfold F_M_bits at hF
  show G p l e { frames := 0, cells := 0, slots := 0, locals := 0 } s m _ below meth c _ (fun _ => 0, fun _ _ => 0) (fun _ => False) 3 [] 0 [(0, .int x0)] []
  refine g_iconst (pc1 := 1) (v := (0 : Int32)) C d_M_bits_0 rfl ic_0 ?_
  refine g_istore_n (pc1 := 2) (L1 := [(1, .int (0 : Int32)), (0, .int x0)]) C d_M_bits_1 rfl rfl (by decide) rfl ?_
  refine g_iconst (pc1 := 3) (v := (0 : Int32)) C d_M_bits_2 rfl ic_0 ?_
  refine g_istore_n (pc1 := 4) (L1 := [(2, .int (0 : Int32)), (1, .int (0 : Int32)), (0, .int x0)]) C d_M_bits_3 rfl rfl (by decide) rfl ?_
  exact g_sub [2, 1, 0] rfl (p_M_bits_4 C hr hlk  x0 (0 : Int32) (0 : Int32) hF)
-- TentPegsModel.refuse(II)I
set_option maxHeartbeats 4000000 in
set_option maxRecDepth 100000 in
theorem c_M_refuse (l : Launch) (D : va_G) (cs : Nat → ClassId) (a : Nat → Nat) (μ : Mem) (x1 : Int32) (x2 : Int32) (r : Int32) (μ1 : Mem) (hF : F_M_refuse μ x1 x2 = some (r, μ1)) : MetI l y_M_refuse b_M_refuse 3 (some .int) { frames := 0, cells := 0, slots := 0, locals := 0 } D cs (AM a) (WM a cs μ) [.ref (a 0), .int x1, .int x2] r (WM a cs μ1) := by
  refine met_of rfl (by decide +kernel) (Nat.le_of_ble_eq_true rfl) (fun p e s m below meth c C hK hr hlk => ?_)
  unfold F_M_refuse at hF
  show G p l e { frames := 0, cells := 0, slots := 0, locals := 0 } s m _ below meth c _ D (AM a) 3 (WM a cs μ) 0 [(0, .ref (a 0)), (1, .int x1), (2, .int x2)] []
  refine g_aload_n (pc1 := 1) C d_M_refuse_0 rfl rfl 0 rfl ?_
  refine get_WM_0_refused (pc1 := 4) C hK kw_170 d_M_refuse_1 rfl ?_
  refine g_iload_n (pc1 := 5) C d_M_refuse_4 rfl rfl 1 rfl ?_
  refine g_dup2 (pc1 := 6) C d_M_refuse_5 rfl rfl rfl ?_
  have hg := gd_some hF
  replace hF := hg.2
  refine g_iald (pc1 := 7) C hK 1 (f := (μ.1 1)) rfl hg.1 d_M_refuse_6 rfl ?_
  refine g_iconst (pc1 := 8) (v := (1 : Int32)) C d_M_refuse_7 rfl ic_1 ?_
  refine g_iadd (pc1 := 9) C d_M_refuse_8 rfl ?_
  have hg := gd_some hF
  replace hF := hg.2
  refine g_iast (pc1 := 10) (ws1 := WM a cs (stI μ 1 x1.toNatClampNeg (((μ.1 1) x1.toNatClampNeg) + (1 : Int32)))) C hK 1 (f := (μ.1 1)) rfl hg.1 (set_WM_1 _ _ _ _ _) d_M_refuse_9 rfl ?_
  refine g_iload_n (pc1 := 11) C d_M_refuse_10 rfl rfl 2 rfl ?_
  exact g_iret C hr hlk d_M_refuse_11 (fst_of hF) (congrArg (WM a cs) (snd_of hF))
-- TentPegsModel.bad()I
set_option maxHeartbeats 4000000 in
set_option maxRecDepth 100000 in
theorem c_M_bad (l : Launch) (D : va_G) (cs : Nat → ClassId) (a : Nat → Nat) (μ : Mem)  (r : Int32) (μ1 : Mem) (hF : F_M_bad μ = some (r, μ1)) : MetI l y_M_bad b_M_bad 1 (some .int) { frames := 1, cells := 0, slots := 0, locals := 22 } D cs (AM a) (WM a cs μ) [.ref (a 0)] r (WM a cs μ1) := by
  refine met_of rfl (by decide +kernel) (Nat.le_of_ble_eq_true rfl) (fun p e s m below meth c C hK hr hlk => ?_)
  unfold F_M_bad at hF
  show G p l e { frames := 1, cells := 0, slots := 0, locals := 22 } s m _ below meth c _ D (AM a) 1 (WM a cs μ) 0 [(0, .ref (a 0))] []
  refine g_aload_n (pc1 := 1) C d_M_bad_0 rfl rfl 0 rfl ?_
  refine g_iconst (pc1 := 2) (v := (0 : Int32)) C d_M_bad_1 rfl ic_0 ?_
  refine g_bipush (pc1 := 4) (v := (-2 : Int32)) C d_M_bad_2 rfl bp_m2 ?_
  obtain ⟨⟨r1, m1⟩, hm1, hF⟩ := bnd_some hF
  refine g_callVI (pc1 := 7) (ws1 := WM a cs m1) (As := [.int (0 : Int32), .int (-2 : Int32)]) (rest := []) (b := a 0) C hK 2 (c_M_refuse l D cs a μ (0 : Int32) (-2 : Int32) r1 m1 hm1) s_M_refuse kw_171 0 rfl rfl rfl ⟨Nat.le_of_ble_eq_true rfl, Nat.le_of_ble_eq_true rfl⟩ ⟨rfl, rfl⟩ d_M_bad_4 rfl rfl (Nat.le_of_ble_eq_true rfl) ?_
  exact g_iret C hr hlk d_M_bad_7 (fst_of hF) (congrArg (WM a cs) (snd_of hF))
-- TentPegsModel.badTen()I
set_option maxHeartbeats 4000000 in
set_option maxRecDepth 100000 in
theorem c_M_badTen (l : Launch) (D : va_G) (cs : Nat → ClassId) (a : Nat → Nat) (μ : Mem)  (r : Int32) (μ1 : Mem) (hF : F_M_badTen μ = some (r, μ1)) : MetI l y_M_badTen b_M_badTen 1 (some .int) { frames := 1, cells := 0, slots := 0, locals := 22 } D cs (AM a) (WM a cs μ) [.ref (a 0)] r (WM a cs μ1) := by
  refine met_of rfl (by decide +kernel) (Nat.le_of_ble_eq_true rfl) (fun p e s m below meth c C hK hr hlk => ?_)
  unfold F_M_badTen at hF
  show G p l e { frames := 1, cells := 0, slots := 0, locals := 22 } s m _ below meth c _ D (AM a) 1 (WM a cs μ) 0 [(0, .ref (a 0))] []
  refine g_aload_n (pc1 := 1) C d_M_badTen_0 rfl rfl 0 rfl ?_
  refine g_iconst (pc1 := 2) (v := (0 : Int32)) C d_M_badTen_1 rfl ic_0 ?_
  refine g_bipush (pc1 := 4) (v := (-10 : Int32)) C d_M_badTen_2 rfl bp_m10 ?_
  obtain ⟨⟨r1, m1⟩, hm1, hF⟩ := bnd_some hF
  refine g_callVI (pc1 := 7) (ws1 := WM a cs m1) (As := [.int (0 : Int32), .int (-10 : Int32)]) (rest := []) (b := a 0) C hK 2 (c_M_refuse l D cs a μ (0 : Int32) (-10 : Int32) r1 m1 hm1) s_M_refuse kw_171 0 rfl rfl rfl ⟨Nat.le_of_ble_eq_true rfl, Nat.le_of_ble_eq_true rfl⟩ ⟨rfl, rfl⟩ d_M_badTen_4 rfl rfl (Nat.le_of_ble_eq_true rfl) ?_
  exact g_iret C hr hlk d_M_badTen_7 (fst_of hF) (congrArg (WM a cs) (snd_of hF))
-- TentPegsModel.no()I
set_option maxHeartbeats 4000000 in
set_option maxRecDepth 100000 in
theorem c_M_no (l : Launch) (D : va_G) (cs : Nat → ClassId) (a : Nat → Nat) (μ : Mem)  (r : Int32) (μ1 : Mem) (hF : F_M_no μ = some (r, μ1)) : MetI l y_M_no b_M_no 1 (some .int) { frames := 1, cells := 0, slots := 0, locals := 22 } D cs (AM a) (WM a cs μ) [.ref (a 0)] r (WM a cs μ1) := by
  refine met_of rfl (by decide +kernel) (Nat.le_of_ble_eq_true rfl) (fun p e s m below meth c C hK hr hlk => ?_)
  unfold F_M_no at hF
  show G p l e { frames := 1, cells := 0, slots := 0, locals := 22 } s m _ below meth c _ D (AM a) 1 (WM a cs μ) 0 [(0, .ref (a 0))] []
  refine g_aload_n (pc1 := 1) C d_M_no_0 rfl rfl 0 rfl ?_
  refine g_iconst (pc1 := 2) (v := (1 : Int32)) C d_M_no_1 rfl ic_1 ?_
  refine g_bipush (pc1 := 4) (v := (-3 : Int32)) C d_M_no_2 rfl bp_m3 ?_
  obtain ⟨⟨r1, m1⟩, hm1, hF⟩ := bnd_some hF
  refine g_callVI (pc1 := 7) (ws1 := WM a cs m1) (As := [.int (1 : Int32), .int (-3 : Int32)]) (rest := []) (b := a 0) C hK 2 (c_M_refuse l D cs a μ (1 : Int32) (-3 : Int32) r1 m1 hm1) s_M_refuse kw_171 0 rfl rfl rfl ⟨Nat.le_of_ble_eq_true rfl, Nat.le_of_ble_eq_true rfl⟩ ⟨rfl, rfl⟩ d_M_no_4 rfl rfl (Nat.le_of_ble_eq_true rfl) ?_
  exact g_iret C hr hlk d_M_no_7 (fst_of hF) (congrArg (WM a cs) (snd_of hF))
-- TentPegsModel.pitch(I)V
set_option maxHeartbeats 4000000 in
set_option maxRecDepth 100000 in
theorem p_M_pitch_45 {p : Program} {l : Launch} {e : Env} {s : State} {m : MethodId} {args : Array Value} {below : List Frame} {meth : Method} {c : Code} {D : va_G} {cs : Nat → ClassId} {a : Nat → Nat} {μ1 : Mem} (C : Cx p s m args c b_M_pitch 3 "TentPegsModel") (hK : va_K D classes (tys cs) s) (hr : meth.sig.returnType = none) (hlk : meth.locks = false) (K2 : Mem → Int32 → Int32 → Option Mem) (hK2 : ∀ (μ : Mem) (x1 : Int32) (x2 : Int32), K2 μ x1 x2 = some μ1 → G p l e { frames := 0, cells := 0, slots := 0, locals := 0 } s m args below meth c (MQ below (Qv (AM a) D (WM a cs μ1)) args s 0 0 (AM a)) D (AM a) 3 (WM a cs μ) 2 [(0, .ref (a 0)), (1, .int x1), (2, .int x2)] []) (μ : Mem) (x1 : Int32) (x2 : Int32) (s0 : Int32) (hF : F_M_pitch_45 K2 μ x1 x2 s0 = some μ1) : G p l e { frames := 0, cells := 0, slots := 0, locals := 0 } s m args below meth c (MQ below (Qv (AM a) D (WM a cs μ1)) args s 0 0 (AM a)) D (AM a) 3 (WM a cs μ) 45 [(0, .ref (a 0)), (1, .int x1), (2, .int x2)] [.int s0, .ref (a 2)] := by
  unfold F_M_pitch_45 at hF
  refine g_iload_n (pc1 := 46) C d_M_pitch_45 rfl rfl 2 rfl ?_
  refine g_bipush (pc1 := 48) (v := (29 : Int32)) C d_M_pitch_46 rfl bp_29 ?_
  refine g_icmp_lt (pc1 := 51) C 61 d_M_pitch_48 rfl (by decide) (fun c1 => ?_) (fun c1 => ?_)
  · replace hF := ite_t hF c1
    refine g_iconst (pc1 := 62) (v := (0 : Int32)) C d_M_pitch_61 rfl ic_0 ?_
    have hg := gd_some hF
    replace hF := hg.2
    refine g_iast (pc1 := 63) (ws1 := WM a cs (stI μ 2 s0.toNatClampNeg (0 : Int32))) C hK 2 (f := (μ.1 2)) rfl hg.1 (set_WM_2 _ _ _ _ _) d_M_pitch_62 rfl ?_
    refine g_iinc (pc1 := 66) (v := (x2 + (1 : Int32))) (L1 := [(2, .int (x2 + (1 : Int32))), (0, .ref (a 0)), (1, .int x1)]) C d_M_pitch_63 rfl 2 rfl (by rw [ic_1]) (by decide) rfl ?_
    refine g_goto C 2 d_M_pitch_66 (by decide) ?_
    exact g_sub [1, 2, 0] rfl (hK2 (stI μ 2 s0.toNatClampNeg (0 : Int32)) x1 (x2 + (1 : Int32)) hF)
  · replace hF := ite_f hF c1
    refine g_iload_n (pc1 := 52) C d_M_pitch_51 rfl rfl 2 rfl ?_
    refine g_bipush (pc1 := 54) (v := (37 : Int32)) C d_M_pitch_52 rfl bp_37 ?_
    refine g_icmp_ge (pc1 := 57) C 61 d_M_pitch_54 rfl (by decide) (fun c1 => ?_) (fun c1 => ?_)
    · replace hF := ite_t hF c1
      refine g_iconst (pc1 := 62) (v := (0 : Int32)) C d_M_pitch_61 rfl ic_0 ?_
      have hg := gd_some hF
      replace hF := hg.2
      refine g_iast (pc1 := 63) (ws1 := WM a cs (stI μ 2 s0.toNatClampNeg (0 : Int32))) C hK 2 (f := (μ.1 2)) rfl hg.1 (set_WM_2 _ _ _ _ _) d_M_pitch_62 rfl ?_
      refine g_iinc (pc1 := 66) (v := (x2 + (1 : Int32))) (L1 := [(2, .int (x2 + (1 : Int32))), (0, .ref (a 0)), (1, .int x1)]) C d_M_pitch_63 rfl 2 rfl (by rw [ic_1]) (by decide) rfl ?_
      refine g_goto C 2 d_M_pitch_66 (by decide) ?_
      exact g_sub [1, 2, 0] rfl (hK2 (stI μ 2 s0.toNatClampNeg (0 : Int32)) x1 (x2 + (1 : Int32)) hF)
    · replace hF := ite_f hF c1
      refine g_iconst (pc1 := 58) (v := (1 : Int32)) C d_M_pitch_57 rfl ic_1 ?_
      refine g_goto C 62 d_M_pitch_58 (by decide) ?_
      have hg := gd_some hF
      replace hF := hg.2
      refine g_iast (pc1 := 63) (ws1 := WM a cs (stI μ 2 s0.toNatClampNeg (1 : Int32))) C hK 2 (f := (μ.1 2)) rfl hg.1 (set_WM_2 _ _ _ _ _) d_M_pitch_62 rfl ?_
      refine g_iinc (pc1 := 66) (v := (x2 + (1 : Int32))) (L1 := [(2, .int (x2 + (1 : Int32))), (0, .ref (a 0)), (1, .int x1)]) C d_M_pitch_63 rfl 2 rfl (by rw [ic_1]) (by decide) rfl ?_
      refine g_goto C 2 d_M_pitch_66 (by decide) ?_
      exact g_sub [1, 2, 0] rfl (hK2 (stI μ 2 s0.toNatClampNeg (1 : Int32)) x1 (x2 + (1 : Int32)) hF)
set_option maxHeartbeats 4000000 in
set_option maxRecDepth 100000 in
theorem p_M_pitch_29 {p : Program} {l : Launch} {e : Env} {s : State} {m : MethodId} {args : Array Value} {below : List Frame} {meth : Method} {c : Code} {D : va_G} {cs : Nat → ClassId} {a : Nat → Nat} {μ1 : Mem} (C : Cx p s m args c b_M_pitch 3 "TentPegsModel") (hK : va_K D classes (tys cs) s) (hr : meth.sig.returnType = none) (hlk : meth.locks = false) (K2 : Mem → Int32 → Int32 → Option Mem) (hK2 : ∀ (μ : Mem) (x1 : Int32) (x2 : Int32), K2 μ x1 x2 = some μ1 → G p l e { frames := 0, cells := 0, slots := 0, locals := 0 } s m args below meth c (MQ below (Qv (AM a) D (WM a cs μ1)) args s 0 0 (AM a)) D (AM a) 3 (WM a cs μ) 2 [(0, .ref (a 0)), (1, .int x1), (2, .int x2)] []) (μ : Mem) (x1 : Int32) (x2 : Int32) (s0 : Int32) (hF : F_M_pitch_29 K2 μ x1 x2 s0 = some μ1) : G p l e { frames := 0, cells := 0, slots := 0, locals := 0 } s m args below meth c (MQ below (Qv (AM a) D (WM a cs μ1)) args s 0 0 (AM a)) D (AM a) 3 (WM a cs μ) 29 [(0, .ref (a 0)), (1, .int x1), (2, .int x2)] [.int s0, .ref (a 2)] := by
  unfold F_M_pitch_29 at hF
  refine g_iload_n (pc1 := 30) C d_M_pitch_29 rfl rfl 2 rfl ?_
  refine g_bipush (pc1 := 32) (v := (21 : Int32)) C d_M_pitch_30 rfl bp_21 ?_
  refine g_icmp_lt (pc1 := 35) C 45 d_M_pitch_32 rfl (by decide) (fun c1 => ?_) (fun c1 => ?_)
  · replace hF := ite_t hF c1
    exact g_sub [0, 1, 2] rfl (p_M_pitch_45 C hK hr hlk K2 hK2 μ x1 x2 s0 hF)
  · replace hF := ite_f hF c1
    refine g_iload_n (pc1 := 36) C d_M_pitch_35 rfl rfl 2 rfl ?_
    refine g_bipush (pc1 := 38) (v := (29 : Int32)) C d_M_pitch_36 rfl bp_29 ?_
    refine g_icmp_ge (pc1 := 41) C 45 d_M_pitch_38 rfl (by decide) (fun c1 => ?_) (fun c1 => ?_)
    · replace hF := ite_t hF c1
      exact g_sub [0, 1, 2] rfl (p_M_pitch_45 C hK hr hlk K2 hK2 μ x1 x2 s0 hF)
    · replace hF := ite_f hF c1
      refine g_iconst (pc1 := 42) (v := (4 : Int32)) C d_M_pitch_41 rfl ic_4 ?_
      refine g_goto C 62 d_M_pitch_42 (by decide) ?_
      have hg := gd_some hF
      replace hF := hg.2
      refine g_iast (pc1 := 63) (ws1 := WM a cs (stI μ 2 s0.toNatClampNeg (4 : Int32))) C hK 2 (f := (μ.1 2)) rfl hg.1 (set_WM_2 _ _ _ _ _) d_M_pitch_62 rfl ?_
      refine g_iinc (pc1 := 66) (v := (x2 + (1 : Int32))) (L1 := [(2, .int (x2 + (1 : Int32))), (0, .ref (a 0)), (1, .int x1)]) C d_M_pitch_63 rfl 2 rfl (by rw [ic_1]) (by decide) rfl ?_
      refine g_goto C 2 d_M_pitch_66 (by decide) ?_
      exact g_sub [1, 2, 0] rfl (hK2 (stI μ 2 s0.toNatClampNeg (4 : Int32)) x1 (x2 + (1 : Int32)) hF)
set_option maxHeartbeats 4000000 in
set_option maxRecDepth 100000 in
theorem p_M_pitch_2 {p : Program} {l : Launch} {e : Env} {s : State} {m : MethodId} {args : Array Value} {below : List Frame} {meth : Method} {c : Code} {D : va_G} {cs : Nat → ClassId} {a : Nat → Nat} {μ1 : Mem} (C : Cx p s m args c b_M_pitch 3 "TentPegsModel") (hK : va_K D classes (tys cs) s) (hr : meth.sig.returnType = none) (hlk : meth.locks = false)  : ∀ (μ : Mem) (x1 : Int32) (x2 : Int32), F_M_pitch_2  μ x1 x2 = some μ1 → G p l e { frames := 0, cells := 0, slots := 0, locals := 0 } s m args below meth c (MQ below (Qv (AM a) D (WM a cs μ1)) args s 0 0 (AM a)) D (AM a) 3 (WM a cs μ) 2 [(0, .ref (a 0)), (1, .int x1), (2, .int x2)] [] := by
  refine iter_ind (fun (K2 : Mem → Int32 → Int32 → Option Mem) => ∀ (μ : Mem) (x1 : Int32) (x2 : Int32), K2 μ x1 x2 = some μ1 → G p l e { frames := 0, cells := 0, slots := 0, locals := 0 } s m args below meth c (MQ below (Qv (AM a) D (WM a cs μ1)) args s 0 0 (AM a)) D (AM a) 3 (WM a cs μ) 2 [(0, .ref (a 0)), (1, .int x1), (2, .int x2)] []) ?_ ?_ NF
  · intro μ x1 x2 hF
    exact none_no hF
  · intro K2 hK2 μ x1 x2 hF
    unfold S_M_pitch_2 at hF
    refine g_iload_n (pc1 := 3) C d_M_pitch_2 rfl rfl 2 rfl ?_
    refine g_bipush (pc1 := 5) (v := (47 : Int32)) C d_M_pitch_3 rfl bp_47 ?_
    refine g_icmp_ge (pc1 := 8) C 69 d_M_pitch_5 rfl (by decide) (fun c1 => ?_) (fun c1 => ?_)
    · replace hF := ite_t hF c1
      refine g_aload_n (pc1 := 70) C d_M_pitch_69 rfl rfl 0 rfl ?_
      refine get_WM_0_field (pc1 := 73) C hK kw_172 d_M_pitch_70 rfl ?_
      refine g_iconst (pc1 := 74) (v := (0 : Int32)) C d_M_pitch_73 rfl ic_0 ?_
      refine g_iload_n (pc1 := 75) C d_M_pitch_74 rfl rfl 1 rfl ?_
      have hg := gd_some hF
      replace hF := hg.2
      refine g_iast (pc1 := 76) (ws1 := WM a cs (stI μ 2 (0 : Int32).toNatClampNeg x1)) C hK 2 (f := (μ.1 2)) rfl hg.1 (set_WM_2 _ _ _ _ _) d_M_pitch_75 rfl ?_
      refine g_aload_n (pc1 := 77) C d_M_pitch_76 rfl rfl 0 rfl ?_
      refine get_WM_0_field (pc1 := 80) C hK kw_172 d_M_pitch_77 rfl ?_
      refine g_iconst (pc1 := 81) (v := (1 : Int32)) C d_M_pitch_80 rfl ic_1 ?_
      refine g_iconst (pc1 := 82) (v := (1 : Int32)) C d_M_pitch_81 rfl ic_1 ?_
      refine g_iload_n (pc1 := 83) C d_M_pitch_82 rfl rfl 1 rfl ?_
      refine g_ishl (pc1 := 84) C d_M_pitch_83 rfl ?_
      refine g_iconst (pc1 := 85) (v := (1 : Int32)) C d_M_pitch_84 rfl ic_1 ?_
      refine g_isub (pc1 := 86) C d_M_pitch_85 rfl ?_
      have hg := gd_some hF
      replace hF := hg.2
      refine g_iast (pc1 := 87) (ws1 := WM a cs (stI (stI μ 2 (0 : Int32).toNatClampNeg x1) 2 (1 : Int32).toNatClampNeg (((1 : Int32) <<< (x1 &&& 31)) - (1 : Int32)))) C hK 2 (f := ((stI μ 2 (0 : Int32).toNatClampNeg x1).1 2)) rfl hg.1 (set_WM_2 _ _ _ _ _) d_M_pitch_86 rfl ?_
      exact g_vret C hr hlk d_M_pitch_87 (congrArg (WM a cs) (Option.some.inj hF))
    · replace hF := ite_f hF c1
      refine g_aload_n (pc1 := 9) C d_M_pitch_8 rfl rfl 0 rfl ?_
      refine get_WM_0_field (pc1 := 12) C hK kw_172 d_M_pitch_9 rfl ?_
      refine g_iload_n (pc1 := 13) C d_M_pitch_12 rfl rfl 2 rfl ?_
      refine g_iload_n (pc1 := 14) C d_M_pitch_13 rfl rfl 2 rfl ?_
      refine g_bipush (pc1 := 16) (v := (13 : Int32)) C d_M_pitch_14 rfl bp_13 ?_
      refine g_icmp_lt (pc1 := 19) C 29 d_M_pitch_16 rfl (by decide) (fun c1 => ?_) (fun c1 => ?_)
      · replace hF := ite_t hF c1
        exact g_sub [0, 1, 2] rfl (p_M_pitch_29 C hK hr hlk K2 hK2 μ x1 x2 x2 hF)
      · replace hF := ite_f hF c1
        refine g_iload_n (pc1 := 20) C d_M_pitch_19 rfl rfl 2 rfl ?_
        refine g_bipush (pc1 := 22) (v := (21 : Int32)) C d_M_pitch_20 rfl bp_21 ?_
        refine g_icmp_ge (pc1 := 25) C 29 d_M_pitch_22 rfl (by decide) (fun c1 => ?_) (fun c1 => ?_)
        · replace hF := ite_t hF c1
          exact g_sub [0, 1, 2] rfl (p_M_pitch_29 C hK hr hlk K2 hK2 μ x1 x2 x2 hF)
        · replace hF := ite_f hF c1
          refine g_iconst (pc1 := 26) (v := (5 : Int32)) C d_M_pitch_25 rfl ic_5 ?_
          refine g_goto C 62 d_M_pitch_26 (by decide) ?_
          have hg := gd_some hF
          replace hF := hg.2
          refine g_iast (pc1 := 63) (ws1 := WM a cs (stI μ 2 x2.toNatClampNeg (5 : Int32))) C hK 2 (f := (μ.1 2)) rfl hg.1 (set_WM_2 _ _ _ _ _) d_M_pitch_62 rfl ?_
          refine g_iinc (pc1 := 66) (v := (x2 + (1 : Int32))) (L1 := [(2, .int (x2 + (1 : Int32))), (0, .ref (a 0)), (1, .int x1)]) C d_M_pitch_63 rfl 2 rfl (by rw [ic_1]) (by decide) rfl ?_
          refine g_goto C 2 d_M_pitch_66 (by decide) ?_
          exact g_sub [1, 2, 0] rfl (hK2 (stI μ 2 x2.toNatClampNeg (5 : Int32)) x1 (x2 + (1 : Int32)) hF)
set_option maxHeartbeats 4000000 in
set_option maxRecDepth 100000 in
theorem c_M_pitch (l : Launch) (D : va_G) (cs : Nat → ClassId) (a : Nat → Nat) (μ : Mem) (x1 : Int32) (μ1 : Mem) (hF : F_M_pitch μ x1 = some μ1) : MetV l y_M_pitch b_M_pitch 3 none { frames := 0, cells := 0, slots := 0, locals := 0 } D cs (AM a) (WM a cs μ) [.ref (a 0), .int x1] (WM a cs μ1) := by
  refine met_of rfl (by decide +kernel) (Nat.le_of_ble_eq_true rfl) (fun p e s m below meth c C hK hr hlk => ?_)
  unfold F_M_pitch at hF
  show G p l e { frames := 0, cells := 0, slots := 0, locals := 0 } s m _ below meth c _ D (AM a) 3 (WM a cs μ) 0 [(0, .ref (a 0)), (1, .int x1)] []
  refine g_iconst (pc1 := 1) (v := (0 : Int32)) C d_M_pitch_0 rfl ic_0 ?_
  refine g_istore_n (pc1 := 2) (L1 := [(2, .int (0 : Int32)), (0, .ref (a 0)), (1, .int x1)]) C d_M_pitch_1 rfl rfl (by decide) rfl ?_
  exact g_sub [1, 2, 0] rfl (p_M_pitch_2 C hK hr hlk  μ x1 (0 : Int32) hF)
-- TentPegsModel.noPeg(I)Z
set_option maxHeartbeats 4000000 in
set_option maxRecDepth 100000 in
theorem c_M_noPeg (l : Launch) (D : va_G) (cs : Nat → ClassId) (a : Nat → Nat) (μ : Mem) (x1 : Int32) (r : Int32) (hF : F_M_noPeg μ x1 = some r) : MetI l y_M_noPeg b_M_noPeg 2 (some .boolean) { frames := 1, cells := 0, slots := 0, locals := 25 } D cs (AM a) (WM a cs μ) [.ref (a 0), .int x1] r (WM a cs μ) := by
  refine met_of rfl (by decide +kernel) (Nat.le_of_ble_eq_true rfl) (fun p e s m below meth c C hK hr hlk => ?_)
  unfold F_M_noPeg at hF
  show G p l e { frames := 1, cells := 0, slots := 0, locals := 25 } s m _ below meth c _ D (AM a) 2 (WM a cs μ) 0 [(0, .ref (a 0)), (1, .int x1)] []
  refine g_iload_n (pc1 := 1) C d_M_noPeg_0 rfl rfl 1 rfl ?_
  refine g_i2l (pc1 := 2) C d_M_noPeg_1 rfl ?_
  refine g_lconst (pc1 := 3) (v := (0 : Int64)) C d_M_noPeg_2 rfl lc_0 ?_
  refine g_aload_n (pc1 := 4) C d_M_noPeg_3 rfl rfl 0 rfl ?_
  refine get_WM_0_field (pc1 := 7) C hK kw_172 d_M_noPeg_4 rfl ?_
  refine g_iconst (pc1 := 8) (v := (0 : Int32)) C d_M_noPeg_7 rfl ic_0 ?_
  have hg := gd_some hF
  replace hF := hg.2
  refine g_iald (pc1 := 9) C hK 2 (f := (μ.1 2)) rfl hg.1 d_M_noPeg_8 rfl ?_
  refine g_iconst (pc1 := 10) (v := (1 : Int32)) C d_M_noPeg_9 rfl ic_1 ?_
  refine g_isub (pc1 := 11) C d_M_noPeg_10 rfl ?_
  refine g_i2l (pc1 := 12) C d_M_noPeg_11 rfl ?_
  obtain ⟨r1, hr1, hF⟩ := bnd_some hF
  refine g_callSI (pc1 := 15) (As := [.long (x1.toInt64), .long (0 : Int64), .long ((((μ.1 2) (0 : Int32).toNatClampNeg) - (1 : Int32)).toInt64)]) (rest := []) C 3 (c_M_in l (x1.toInt64) (0 : Int64) ((((μ.1 2) (0 : Int32).toNatClampNeg) - (1 : Int32)).toInt64) r1 hr1) s_M_in kw_173 rfl ⟨Nat.le_of_ble_eq_true rfl, Nat.le_of_ble_eq_true rfl⟩ ⟨rfl, rfl⟩ d_M_noPeg_12 rfl rfl (Nat.le_of_ble_eq_true rfl) ?_
  refine g_if_ne (pc1 := 18) C 22 d_M_noPeg_15 rfl (by decide) (fun c1 => ?_) (fun c1 => ?_)
  · replace hF := ite_f hF c1
    refine g_iconst (pc1 := 23) (v := (0 : Int32)) C d_M_noPeg_22 rfl ic_0 ?_
    exact g_zret C hr hlk rfl d_M_noPeg_23 (Option.some.inj hF) rfl
  · replace hF := ite_t hF c1
    refine g_iconst (pc1 := 19) (v := (1 : Int32)) C d_M_noPeg_18 rfl ic_1 ?_
    refine g_goto C 23 d_M_noPeg_19 (by decide) ?_
    exact g_zret C hr hlk rfl d_M_noPeg_23 (Option.some.inj hF) rfl
-- TentPegsModel.noWay(I)Z
set_option maxHeartbeats 4000000 in
set_option maxRecDepth 100000 in
theorem c_M_noWay (l : Launch) (x0 : Int32) (r : Int32) (hF : F_M_noWay x0 = some r) : SetI l y_M_noWay b_M_noWay 1 (some .boolean) { frames := 1, cells := 0, slots := 0, locals := 25 } [.int x0] r := by
  refine met_ofS rfl (by decide +kernel) (Nat.le_of_ble_eq_true rfl) (fun p e s m below meth c C hr hlk => ?_)
  unfold F_M_noWay at hF
  show G p l e { frames := 1, cells := 0, slots := 0, locals := 25 } s m _ below meth c _ (fun _ => 0, fun _ _ => 0) (fun _ => False) 1 [] 0 [(0, .int x0)] []
  refine g_iload_n (pc1 := 1) C d_M_noWay_0 rfl rfl 0 rfl ?_
  refine g_i2l (pc1 := 2) C d_M_noWay_1 rfl ?_
  refine g_lconst (pc1 := 3) (v := (0 : Int64)) C d_M_noWay_2 rfl lc_0 ?_
  refine g_ldc2 (pc1 := 6) (v := (7 : Int64)) C d_M_noWay_3 rfl kw_174 ?_
  obtain ⟨r1, hr1, hF⟩ := bnd_some hF
  refine g_callSI (pc1 := 9) (As := [.long (x0.toInt64), .long (0 : Int64), .long (7 : Int64)]) (rest := []) C 3 (c_M_in l (x0.toInt64) (0 : Int64) (7 : Int64) r1 hr1) s_M_in kw_173 rfl ⟨Nat.le_of_ble_eq_true rfl, Nat.le_of_ble_eq_true rfl⟩ ⟨rfl, rfl⟩ d_M_noWay_6 rfl rfl (Nat.le_of_ble_eq_true rfl) ?_
  refine g_if_ne (pc1 := 12) C 16 d_M_noWay_9 rfl (by decide) (fun c1 => ?_) (fun c1 => ?_)
  · replace hF := ite_f hF c1
    refine g_iconst (pc1 := 17) (v := (0 : Int32)) C d_M_noWay_16 rfl ic_0 ?_
    exact g_zret C hr hlk rfl d_M_noWay_17 (Option.some.inj hF) rfl
  · replace hF := ite_t hF c1
    refine g_iconst (pc1 := 13) (v := (1 : Int32)) C d_M_noWay_12 rfl ic_1 ?_
    refine g_goto C 17 d_M_noWay_13 (by decide) ?_
    exact g_zret C hr hlk rfl d_M_noWay_17 (Option.some.inj hF) rfl
-- TentPegsModel.noGust(II)Z
set_option maxHeartbeats 4000000 in
set_option maxRecDepth 100000 in
theorem c_M_noGust (l : Launch) (x0 : Int32) (x1 : Int32) (r : Int32) (hF : F_M_noGust x0 x1 = some r) : SetI l y_M_noGust b_M_noGust 2 (some .boolean) { frames := 2, cells := 0, slots := 0, locals := 45 } [.int x0, .int x1] r := by
  refine met_ofS rfl (by decide +kernel) (Nat.le_of_ble_eq_true rfl) (fun p e s m below meth c C hr hlk => ?_)
  unfold F_M_noGust at hF
  show G p l e { frames := 2, cells := 0, slots := 0, locals := 45 } s m _ below meth c _ (fun _ => 0, fun _ _ => 0) (fun _ => False) 2 [] 0 [(0, .int x0), (1, .int x1)] []
  refine g_iload_n (pc1 := 1) C d_M_noGust_0 rfl rfl 0 rfl ?_
  obtain ⟨r1, hr1, hF⟩ := bnd_some hF
  refine g_callSI (pc1 := 4) (As := [.int x0]) (rest := []) C 1 (c_M_noWay l x0 r1 hr1) s_M_noWay kw_175 rfl ⟨Nat.le_of_ble_eq_true rfl, Nat.le_of_ble_eq_true rfl⟩ ⟨rfl, rfl⟩ d_M_noGust_1 rfl rfl (Nat.le_of_ble_eq_true rfl) ?_
  refine g_if_ne (pc1 := 7) C 19 d_M_noGust_4 rfl (by decide) (fun c1 => ?_) (fun c1 => ?_)
  · replace hF := ite_f hF c1
    refine g_iconst (pc1 := 20) (v := (1 : Int32)) C d_M_noGust_19 rfl ic_1 ?_
    refine g_goto C 24 d_M_noGust_20 (by decide) ?_
    exact g_zret C hr hlk rfl d_M_noGust_24 (Option.some.inj hF) rfl
  · replace hF := ite_t hF c1
    refine g_iload_n (pc1 := 8) C d_M_noGust_7 rfl rfl 1 rfl ?_
    refine g_i2l (pc1 := 9) C d_M_noGust_8 rfl ?_
    refine g_lconst (pc1 := 10) (v := (0 : Int64)) C d_M_noGust_9 rfl lc_0 ?_
    refine g_ldc2 (pc1 := 13) (v := (60 : Int64)) C d_M_noGust_10 rfl kw_176 ?_
    obtain ⟨r2, hr2, hF⟩ := bnd_some hF
    refine g_callSI (pc1 := 16) (As := [.long (x1.toInt64), .long (0 : Int64), .long (60 : Int64)]) (rest := []) C 3 (c_M_in l (x1.toInt64) (0 : Int64) (60 : Int64) r2 hr2) s_M_in kw_173 rfl ⟨Nat.le_of_ble_eq_true rfl, Nat.le_of_ble_eq_true rfl⟩ ⟨rfl, rfl⟩ d_M_noGust_13 rfl rfl (Nat.le_of_ble_eq_true rfl) ?_
    refine g_if_ne (pc1 := 19) C 23 d_M_noGust_16 rfl (by decide) (fun c1 => ?_) (fun c1 => ?_)
    · replace hF := ite_f hF c1
      refine g_iconst (pc1 := 24) (v := (0 : Int32)) C d_M_noGust_23 rfl ic_0 ?_
      exact g_zret C hr hlk rfl d_M_noGust_24 (Option.some.inj hF) rfl
    · replace hF := ite_t hF c1
      refine g_iconst (pc1 := 20) (v := (1 : Int32)) C d_M_noGust_19 rfl ic_1 ?_
      refine g_goto C 24 d_M_noGust_20 (by decide) ?_
      exact g_zret C hr hlk rfl d_M_noGust_24 (Option.some.inj hF) rfl
-- TentPegsModel.isLost()Z
set_option maxHeartbeats 4000000 in
set_option maxRecDepth 100000 in
theorem c_M_isLost (l : Launch) (D : va_G) (cs : Nat → ClassId) (a : Nat → Nat) (μ : Mem)  (r : Int32) (hF : F_M_isLost μ = some r) : MetI l y_M_isLost b_M_isLost 1 (some .boolean) { frames := 1, cells := 0, slots := 0, locals := 22 } D cs (AM a) (WM a cs μ) [.ref (a 0)] r (WM a cs μ) := by
  refine met_of rfl (by decide +kernel) (Nat.le_of_ble_eq_true rfl) (fun p e s m below meth c C hK hr hlk => ?_)
  unfold F_M_isLost at hF
  show G p l e { frames := 1, cells := 0, slots := 0, locals := 22 } s m _ below meth c _ D (AM a) 1 (WM a cs μ) 0 [(0, .ref (a 0))] []
  refine g_aload_n (pc1 := 1) C d_M_isLost_0 rfl rfl 0 rfl ?_
  refine get_WM_0_field (pc1 := 4) C hK kw_172 d_M_isLost_1 rfl ?_
  refine g_iconst (pc1 := 5) (v := (1 : Int32)) C d_M_isLost_4 rfl ic_1 ?_
  have hg := gd_some hF
  replace hF := hg.2
  refine g_iald (pc1 := 6) C hK 2 (f := (μ.1 2)) rfl hg.1 d_M_isLost_5 rfl ?_
  obtain ⟨r1, hr1, hF⟩ := bnd_some hF
  refine g_callSI (pc1 := 9) (As := [.int ((μ.1 2) (1 : Int32).toNatClampNeg)]) (rest := []) C 1 (c_M_bits l ((μ.1 2) (1 : Int32).toNatClampNeg) r1 hr1) s_M_bits kw_177 rfl ⟨Nat.le_of_ble_eq_true rfl, Nat.le_of_ble_eq_true rfl⟩ ⟨rfl, rfl⟩ d_M_isLost_6 rfl rfl (Nat.le_of_ble_eq_true rfl) ?_
  refine g_iconst (pc1 := 10) (v := (2 : Int32)) C d_M_isLost_9 rfl ic_2 ?_
  refine g_icmp_ge (pc1 := 13) C 17 d_M_isLost_10 rfl (by decide) (fun c1 => ?_) (fun c1 => ?_)
  · replace hF := ite_t hF c1
    refine g_iconst (pc1 := 18) (v := (0 : Int32)) C d_M_isLost_17 rfl ic_0 ?_
    exact g_zret C hr hlk rfl d_M_isLost_18 (Option.some.inj hF) rfl
  · replace hF := ite_f hF c1
    refine g_iconst (pc1 := 14) (v := (1 : Int32)) C d_M_isLost_13 rfl ic_1 ?_
    refine g_goto C 18 d_M_isLost_14 (by decide) ?_
    exact g_zret C hr hlk rfl d_M_isLost_18 (Option.some.inj hF) rfl
-- TentPegsModel.tent(I)I
set_option maxHeartbeats 4000000 in
set_option maxRecDepth 100000 in
theorem c_M_tent (l : Launch) (D : va_G) (cs : Nat → ClassId) (a : Nat → Nat) (μ : Mem) (x1 : Int32) (r : Int32) (μ1 : Mem) (hF : F_M_tent μ x1 = some (r, μ1)) : MetI l y_M_tent b_M_tent 3 (some .int) { frames := 2, cells := 0, slots := 0, locals := 42 } D cs (AM a) (WM a cs μ) [.ref (a 0), .int x1] r (WM a cs μ1) := by
  refine met_of rfl (by decide +kernel) (Nat.le_of_ble_eq_true rfl) (fun p e s m below meth c C hK hr hlk => ?_)
  unfold F_M_tent at hF
  show G p l e { frames := 2, cells := 0, slots := 0, locals := 42 } s m _ below meth c _ D (AM a) 3 (WM a cs μ) 0 [(0, .ref (a 0)), (1, .int x1)] []
  refine g_aload_n (pc1 := 1) C d_M_tent_0 rfl rfl 0 rfl ?_
  refine g_iconst (pc1 := 2) (v := (0 : Int32)) C d_M_tent_1 rfl ic_0 ?_
  refine put_WM_0_thrown (pc1 := 5) C hK kw_178 d_M_tent_2 rfl ?_
  refine g_iload_n (pc1 := 6) C d_M_tent_5 rfl rfl 1 rfl ?_
  refine g_i2l (pc1 := 7) C d_M_tent_6 rfl ?_
  refine g_ldc2 (pc1 := 10) (v := (2 : Int64)) C d_M_tent_7 rfl kw_179 ?_
  refine g_ldc2 (pc1 := 13) (v := (8 : Int64)) C d_M_tent_10 rfl kw_180 ?_
  obtain ⟨r1, hr1, hF⟩ := bnd_some hF
  refine g_callSI (pc1 := 16) (As := [.long (x1.toInt64), .long (2 : Int64), .long (8 : Int64)]) (rest := []) C 3 (c_M_in l (x1.toInt64) (2 : Int64) (8 : Int64) r1 hr1) s_M_in kw_173 rfl ⟨Nat.le_of_ble_eq_true rfl, Nat.le_of_ble_eq_true rfl⟩ ⟨rfl, rfl⟩ d_M_tent_13 rfl rfl (Nat.le_of_ble_eq_true rfl) ?_
  refine g_if_ne (pc1 := 19) C 24 d_M_tent_16 rfl (by decide) (fun c1 => ?_) (fun c1 => ?_)
  · replace hF := ite_f hF c1
    refine g_aload_n (pc1 := 25) C d_M_tent_24 rfl rfl 0 rfl ?_
    refine get_WM_0_field (pc1 := 28) C hK kw_172 d_M_tent_25 rfl ?_
    refine g_iconst (pc1 := 29) (v := (0 : Int32)) C d_M_tent_28 rfl ic_0 ?_
    have hg := gd_some hF
    replace hF := hg.2
    refine g_iald (pc1 := 30) C hK 2 (f := (μ.1 2)) rfl hg.1 d_M_tent_29 rfl ?_
    refine g_istore_n (pc1 := 31) (L1 := [(2, .int ((μ.1 2) (0 : Int32).toNatClampNeg)), (0, .ref (a 0)), (1, .int x1)]) C d_M_tent_30 rfl rfl (by decide) rfl ?_
    refine g_aload_n (pc1 := 32) C d_M_tent_31 rfl rfl 1 rfl ?_
    refine g_iload_n (pc1 := 33) C d_M_tent_32 rfl rfl 2 rfl ?_
    obtain ⟨m2, hm2, hF⟩ := bnd_some hF
    refine g_callVV (pc1 := 36) (ws1 := WM a cs m2) (As := [.int x1]) (rest := []) (b := a 0) C hK 1 (c_M_pitch l D cs a (stI μ 0 0 (0 : Int32)) x1 m2 hm2) s_M_pitch kw_181 0 rfl rfl rfl ⟨Nat.le_of_ble_eq_true rfl, Nat.le_of_ble_eq_true rfl⟩ ⟨rfl, rfl⟩ d_M_tent_33 rfl rfl (Nat.le_of_ble_eq_true rfl) ?_
    refine g_iload_n (pc1 := 37) C d_M_tent_36 rfl rfl 0 rfl ?_
    exact g_iret C hr hlk d_M_tent_37 (fst_of hF) (congrArg (WM a cs) (snd_of hF))
  · replace hF := ite_t hF c1
    refine g_aload_n (pc1 := 20) C d_M_tent_19 rfl rfl 0 rfl ?_
    obtain ⟨⟨r3, m3⟩, hm3, hF⟩ := bnd_some hF
    refine g_callVI (pc1 := 23) (ws1 := WM a cs m3) (As := []) (rest := []) (b := a 0) C hK 0 (c_M_bad l D cs a (stI μ 0 0 (0 : Int32))  r3 m3 hm3) s_M_bad kw_182 0 rfl rfl rfl ⟨Nat.le_of_ble_eq_true rfl, Nat.le_of_ble_eq_true rfl⟩ ⟨rfl, rfl⟩ d_M_tent_20 rfl rfl (Nat.le_of_ble_eq_true rfl) ?_
    exact g_iret C hr hlk d_M_tent_23 (fst_of hF) (congrArg (WM a cs) (snd_of hF))
-- TentPegsModel.isPeg(IIII)Z
set_option maxHeartbeats 4000000 in
set_option maxRecDepth 100000 in
theorem c_M_isPeg (l : Launch) (D : va_G) (cs : Nat → ClassId) (a : Nat → Nat) (μ : Mem) (x1 : Int32) (x2 : Int32) (x3 : Int32) (x4 : Int32) (r : Int32) (hF : F_M_isPeg μ x1 x2 x3 x4 = some r) : MetI l y_M_isPeg b_M_isPeg 5 (some .boolean) { frames := 2, cells := 0, slots := 0, locals := 46 } D cs (AM a) (WM a cs μ) [.ref (a 0), .int x1, .int x2, .int x3, .int x4] r (WM a cs μ) := by
  refine met_of rfl (by decide +kernel) (Nat.le_of_ble_eq_true rfl) (fun p e s m below meth c C hK hr hlk => ?_)
  unfold F_M_isPeg at hF
  show G p l e { frames := 2, cells := 0, slots := 0, locals := 46 } s m _ below meth c _ D (AM a) 5 (WM a cs μ) 0 [(0, .ref (a 0)), (1, .int x1), (2, .int x2), (3, .int x3), (4, .int x4)] []
  refine g_aload_n (pc1 := 1) C d_M_isPeg_0 rfl rfl 0 rfl ?_
  refine g_iload_n (pc1 := 2) C d_M_isPeg_1 rfl rfl 1 rfl ?_
  obtain ⟨r1, hr1, hF⟩ := bnd_some hF
  refine g_callVI (pc1 := 5) (ws1 := WM a cs μ) (As := [.int x1]) (rest := []) (b := a 0) C hK 1 (c_M_noPeg l D cs a μ x1 r1 hr1) s_M_noPeg kw_183 0 rfl rfl rfl ⟨Nat.le_of_ble_eq_true rfl, Nat.le_of_ble_eq_true rfl⟩ ⟨rfl, rfl⟩ d_M_isPeg_2 rfl rfl (Nat.le_of_ble_eq_true rfl) ?_
  refine g_if_ne (pc1 := 8) C 49 d_M_isPeg_5 rfl (by decide) (fun c1 => ?_) (fun c1 => ?_)
  · replace hF := ite_f hF c1
    refine g_iconst (pc1 := 50) (v := (0 : Int32)) C d_M_isPeg_49 rfl ic_0 ?_
    exact g_zret C hr hlk rfl d_M_isPeg_50 (Option.some.inj hF) rfl
  · replace hF := ite_t hF c1
    refine g_iload_n (pc1 := 9) C d_M_isPeg_8 rfl rfl 2 rfl ?_
    refine g_i2l (pc1 := 10) C d_M_isPeg_9 rfl ?_
    refine g_lconst (pc1 := 11) (v := (0 : Int64)) C d_M_isPeg_10 rfl lc_0 ?_
    refine g_ldc2 (pc1 := 14) (v := (5 : Int64)) C d_M_isPeg_11 rfl kw_184 ?_
    obtain ⟨r2, hr2, hF⟩ := bnd_some hF
    refine g_callSI (pc1 := 17) (As := [.long (x2.toInt64), .long (0 : Int64), .long (5 : Int64)]) (rest := []) C 3 (c_M_in l (x2.toInt64) (0 : Int64) (5 : Int64) r2 hr2) s_M_in kw_173 rfl ⟨Nat.le_of_ble_eq_true rfl, Nat.le_of_ble_eq_true rfl⟩ ⟨rfl, rfl⟩ d_M_isPeg_14 rfl rfl (Nat.le_of_ble_eq_true rfl) ?_
    refine g_if_eq (pc1 := 20) C 49 d_M_isPeg_17 rfl (by decide) (fun c1 => ?_) (fun c1 => ?_)
    · replace hF := ite_t hF c1
      refine g_iconst (pc1 := 50) (v := (0 : Int32)) C d_M_isPeg_49 rfl ic_0 ?_
      exact g_zret C hr hlk rfl d_M_isPeg_50 (Option.some.inj hF) rfl
    · replace hF := ite_f hF c1
      refine g_iload_n (pc1 := 21) C d_M_isPeg_20 rfl rfl 3 rfl ?_
      refine g_i2l (pc1 := 22) C d_M_isPeg_21 rfl ?_
      refine g_lconst (pc1 := 23) (v := (0 : Int64)) C d_M_isPeg_22 rfl lc_0 ?_
      refine g_ldc2 (pc1 := 26) (v := (9 : Int64)) C d_M_isPeg_23 rfl kw_185 ?_
      obtain ⟨r3, hr3, hF⟩ := bnd_some hF
      refine g_callSI (pc1 := 29) (As := [.long (x3.toInt64), .long (0 : Int64), .long (9 : Int64)]) (rest := []) C 3 (c_M_in l (x3.toInt64) (0 : Int64) (9 : Int64) r3 hr3) s_M_in kw_173 rfl ⟨Nat.le_of_ble_eq_true rfl, Nat.le_of_ble_eq_true rfl⟩ ⟨rfl, rfl⟩ d_M_isPeg_26 rfl rfl (Nat.le_of_ble_eq_true rfl) ?_
      refine g_if_eq (pc1 := 32) C 49 d_M_isPeg_29 rfl (by decide) (fun c1 => ?_) (fun c1 => ?_)
      · replace hF := ite_t hF c1
        refine g_iconst (pc1 := 50) (v := (0 : Int32)) C d_M_isPeg_49 rfl ic_0 ?_
        exact g_zret C hr hlk rfl d_M_isPeg_50 (Option.some.inj hF) rfl
      · replace hF := ite_f hF c1
        refine g_iload (pc1 := 34) C d_M_isPeg_32 rfl 4 rfl ?_
        refine g_i2l (pc1 := 35) C d_M_isPeg_34 rfl ?_
        refine g_lconst (pc1 := 36) (v := (0 : Int64)) C d_M_isPeg_35 rfl lc_0 ?_
        refine g_ldc2 (pc1 := 39) (v := (9 : Int64)) C d_M_isPeg_36 rfl kw_185 ?_
        obtain ⟨r4, hr4, hF⟩ := bnd_some hF
        refine g_callSI (pc1 := 42) (As := [.long (x4.toInt64), .long (0 : Int64), .long (9 : Int64)]) (rest := []) C 3 (c_M_in l (x4.toInt64) (0 : Int64) (9 : Int64) r4 hr4) s_M_in kw_173 rfl ⟨Nat.le_of_ble_eq_true rfl, Nat.le_of_ble_eq_true rfl⟩ ⟨rfl, rfl⟩ d_M_isPeg_39 rfl rfl (Nat.le_of_ble_eq_true rfl) ?_
        refine g_if_eq (pc1 := 45) C 49 d_M_isPeg_42 rfl (by decide) (fun c1 => ?_) (fun c1 => ?_)
        · replace hF := ite_t hF c1
          refine g_iconst (pc1 := 50) (v := (0 : Int32)) C d_M_isPeg_49 rfl ic_0 ?_
          exact g_zret C hr hlk rfl d_M_isPeg_50 (Option.some.inj hF) rfl
        · replace hF := ite_f hF c1
          refine g_iconst (pc1 := 46) (v := (1 : Int32)) C d_M_isPeg_45 rfl ic_1 ?_
          refine g_goto C 50 d_M_isPeg_46 (by decide) ?_
          exact g_zret C hr hlk rfl d_M_isPeg_50 (Option.some.inj hF) rfl
-- TentPegsModel.drive(IIII)V
set_option maxHeartbeats 4000000 in
set_option maxRecDepth 100000 in
theorem c_M_drive (l : Launch) (D : va_G) (cs : Nat → ClassId) (a : Nat → Nat) (μ : Mem) (x1 : Int32) (x2 : Int32) (x3 : Int32) (x4 : Int32) (μ1 : Mem) (hF : F_M_drive μ x1 x2 x3 x4 = some μ1) : MetV l y_M_drive b_M_drive 5 none { frames := 0, cells := 0, slots := 0, locals := 0 } D cs (AM a) (WM a cs μ) [.ref (a 0), .int x1, .int x2, .int x3, .int x4] (WM a cs μ1) := by
  refine met_of rfl (by decide +kernel) (Nat.le_of_ble_eq_true rfl) (fun p e s m below meth c C hK hr hlk => ?_)
  unfold F_M_drive at hF
  show G p l e { frames := 0, cells := 0, slots := 0, locals := 0 } s m _ below meth c _ D (AM a) 5 (WM a cs μ) 0 [(0, .ref (a 0)), (1, .int x1), (2, .int x2), (3, .int x3), (4, .int x4)] []
  refine g_aload_n (pc1 := 1) C d_M_drive_0 rfl rfl 0 rfl ?_
  refine get_WM_0_field (pc1 := 4) C hK kw_172 d_M_drive_1 rfl ?_
  refine g_iconst (pc1 := 5) (v := (5 : Int32)) C d_M_drive_4 rfl ic_5 ?_
  refine g_iload_n (pc1 := 6) C d_M_drive_5 rfl rfl 1 rfl ?_
  refine g_iadd (pc1 := 7) C d_M_drive_6 rfl ?_
  refine g_iload_n (pc1 := 8) C d_M_drive_7 rfl rfl 2 rfl ?_
  have hg := gd_some hF
  replace hF := hg.2
  refine g_iast (pc1 := 9) (ws1 := WM a cs (stI μ 2 ((5 : Int32) + x1).toNatClampNeg x2)) C hK 2 (f := (μ.1 2)) rfl hg.1 (set_WM_2 _ _ _ _ _) d_M_drive_8 rfl ?_
  refine g_aload_n (pc1 := 10) C d_M_drive_9 rfl rfl 0 rfl ?_
  refine get_WM_0_field (pc1 := 13) C hK kw_172 d_M_drive_10 rfl ?_
  refine g_bipush (pc1 := 15) (v := (13 : Int32)) C d_M_drive_13 rfl bp_13 ?_
  refine g_iload_n (pc1 := 16) C d_M_drive_15 rfl rfl 1 rfl ?_
  refine g_iadd (pc1 := 17) C d_M_drive_16 rfl ?_
  refine g_iload_n (pc1 := 18) C d_M_drive_17 rfl rfl 3 rfl ?_
  have hg := gd_some hF
  replace hF := hg.2
  refine g_iast (pc1 := 19) (ws1 := WM a cs (stI (stI μ 2 ((5 : Int32) + x1).toNatClampNeg x2) 2 ((13 : Int32) + x1).toNatClampNeg x3)) C hK 2 (f := ((stI μ 2 ((5 : Int32) + x1).toNatClampNeg x2).1 2)) rfl hg.1 (set_WM_2 _ _ _ _ _) d_M_drive_18 rfl ?_
  refine g_aload_n (pc1 := 20) C d_M_drive_19 rfl rfl 0 rfl ?_
  refine get_WM_0_field (pc1 := 23) C hK kw_172 d_M_drive_20 rfl ?_
  refine g_bipush (pc1 := 25) (v := (21 : Int32)) C d_M_drive_23 rfl bp_21 ?_
  refine g_iload_n (pc1 := 26) C d_M_drive_25 rfl rfl 1 rfl ?_
  refine g_iadd (pc1 := 27) C d_M_drive_26 rfl ?_
  refine g_iload (pc1 := 29) C d_M_drive_27 rfl 4 rfl ?_
  have hg := gd_some hF
  replace hF := hg.2
  refine g_iast (pc1 := 30) (ws1 := WM a cs (stI (stI (stI μ 2 ((5 : Int32) + x1).toNatClampNeg x2) 2 ((13 : Int32) + x1).toNatClampNeg x3) 2 ((21 : Int32) + x1).toNatClampNeg x4)) C hK 2 (f := ((stI (stI μ 2 ((5 : Int32) + x1).toNatClampNeg x2) 2 ((13 : Int32) + x1).toNatClampNeg x3).1 2)) rfl hg.1 (set_WM_2 _ _ _ _ _) d_M_drive_29 rfl ?_
  exact g_vret C hr hlk d_M_drive_30 (congrArg (WM a cs) (Option.some.inj hF))
-- TentPegsModel.peg(IIII)I
set_option maxHeartbeats 4000000 in
set_option maxRecDepth 100000 in
theorem c_M_peg (l : Launch) (D : va_G) (cs : Nat → ClassId) (a : Nat → Nat) (μ : Mem) (x1 : Int32) (x2 : Int32) (x3 : Int32) (x4 : Int32) (r : Int32) (μ1 : Mem) (hF : F_M_peg μ x1 x2 x3 x4 = some (r, μ1)) : MetI l y_M_peg b_M_peg 6 (some .int) { frames := 3, cells := 0, slots := 0, locals := 70 } D cs (AM a) (WM a cs μ) [.ref (a 0), .int x1, .int x2, .int x3, .int x4] r (WM a cs μ1) := by
  refine met_of rfl (by decide +kernel) (Nat.le_of_ble_eq_true rfl) (fun p e s m below meth c C hK hr hlk => ?_)
  unfold F_M_peg at hF
  show G p l e { frames := 3, cells := 0, slots := 0, locals := 70 } s m _ below meth c _ D (AM a) 6 (WM a cs μ) 0 [(0, .ref (a 0)), (1, .int x1), (2, .int x2), (3, .int x3), (4, .int x4)] []
  refine g_aload_n (pc1 := 1) C d_M_peg_0 rfl rfl 0 rfl ?_
  refine g_iconst (pc1 := 2) (v := (0 : Int32)) C d_M_peg_1 rfl ic_0 ?_
  refine put_WM_0_thrown (pc1 := 5) C hK kw_178 d_M_peg_2 rfl ?_
  refine g_aload_n (pc1 := 6) C d_M_peg_5 rfl rfl 0 rfl ?_
  refine g_iload_n (pc1 := 7) C d_M_peg_6 rfl rfl 1 rfl ?_
  refine g_iload_n (pc1 := 8) C d_M_peg_7 rfl rfl 2 rfl ?_
  refine g_iload_n (pc1 := 9) C d_M_peg_8 rfl rfl 3 rfl ?_
  refine g_iload (pc1 := 11) C d_M_peg_9 rfl 4 rfl ?_
  obtain ⟨r1, hr1, hF⟩ := bnd_some hF
  refine g_callVI (pc1 := 14) (ws1 := WM a cs (stI μ 0 0 (0 : Int32))) (As := [.int x1, .int x2, .int x3, .int x4]) (rest := []) (b := a 0) C hK 4 (c_M_isPeg l D cs a (stI μ 0 0 (0 : Int32)) x1 x2 x3 x4 r1 hr1) s_M_isPeg kw_186 0 rfl rfl rfl ⟨Nat.le_of_ble_eq_true rfl, Nat.le_of_ble_eq_true rfl⟩ ⟨rfl, rfl⟩ d_M_peg_11 rfl rfl (Nat.le_of_ble_eq_true rfl) ?_
  refine g_if_ne (pc1 := 17) C 22 d_M_peg_14 rfl (by decide) (fun c1 => ?_) (fun c1 => ?_)
  · replace hF := ite_f hF c1
    refine g_aload_n (pc1 := 23) C d_M_peg_22 rfl rfl 0 rfl ?_
    refine get_WM_0_field (pc1 := 26) C hK kw_172 d_M_peg_23 rfl ?_
    refine g_iconst (pc1 := 27) (v := (5 : Int32)) C d_M_peg_26 rfl ic_5 ?_
    refine g_iload_n (pc1 := 28) C d_M_peg_27 rfl rfl 1 rfl ?_
    refine g_iadd (pc1 := 29) C d_M_peg_28 rfl ?_
    have hg := gd_some hF
    replace hF := hg.2
    refine g_iald (pc1 := 30) C hK 2 (f := (μ.1 2)) rfl hg.1 d_M_peg_29 rfl ?_
    refine g_istore (pc1 := 32) (L1 := [(5, .int ((μ.1 2) ((5 : Int32) + x1).toNatClampNeg)), (0, .ref (a 0)), (1, .int x1), (2, .int x2), (3, .int x3), (4, .int x4)]) C d_M_peg_30 rfl (by decide) rfl ?_
    refine g_aload_n (pc1 := 33) C d_M_peg_32 rfl rfl 1 rfl ?_
    refine g_iload_n (pc1 := 34) C d_M_peg_33 rfl rfl 2 rfl ?_
    refine g_iload_n (pc1 := 35) C d_M_peg_34 rfl rfl 3 rfl ?_
    refine g_iload_n (pc1 := 36) C d_M_peg_35 rfl rfl 4 rfl ?_
    refine g_iload (pc1 := 38) C d_M_peg_36 rfl 5 rfl ?_
    obtain ⟨m2, hm2, hF⟩ := bnd_some hF
    refine g_callVV (pc1 := 41) (ws1 := WM a cs m2) (As := [.int x1, .int x2, .int x3, .int x4]) (rest := []) (b := a 0) C hK 4 (c_M_drive l D cs a (stI μ 0 0 (0 : Int32)) x1 x2 x3 x4 m2 hm2) s_M_drive kw_187 0 rfl rfl rfl ⟨Nat.le_of_ble_eq_true rfl, Nat.le_of_ble_eq_true rfl⟩ ⟨rfl, rfl⟩ d_M_peg_38 rfl rfl (Nat.le_of_ble_eq_true rfl) ?_
    refine g_iload (pc1 := 43) C d_M_peg_41 rfl 0 rfl ?_
    exact g_iret C hr hlk d_M_peg_43 (fst_of hF) (congrArg (WM a cs) (snd_of hF))
  · replace hF := ite_t hF c1
    refine g_aload_n (pc1 := 18) C d_M_peg_17 rfl rfl 0 rfl ?_
    obtain ⟨⟨r3, m3⟩, hm3, hF⟩ := bnd_some hF
    refine g_callVI (pc1 := 21) (ws1 := WM a cs m3) (As := []) (rest := []) (b := a 0) C hK 0 (c_M_bad l D cs a (stI μ 0 0 (0 : Int32))  r3 m3 hm3) s_M_bad kw_182 0 rfl rfl rfl ⟨Nat.le_of_ble_eq_true rfl, Nat.le_of_ble_eq_true rfl⟩ ⟨rfl, rfl⟩ d_M_peg_18 rfl rfl (Nat.le_of_ble_eq_true rfl) ?_
    exact g_iret C hr hlk d_M_peg_21 (fst_of hF) (congrArg (WM a cs) (snd_of hF))
-- TentPegsModel.wet(I)I
set_option maxHeartbeats 4000000 in
set_option maxRecDepth 100000 in
theorem c_M_wet (l : Launch) (D : va_G) (cs : Nat → ClassId) (a : Nat → Nat) (μ : Mem) (x1 : Int32) (r : Int32) (μ1 : Mem) (hF : F_M_wet μ x1 = some (r, μ1)) : MetI l y_M_wet b_M_wet 3 (some .int) { frames := 2, cells := 0, slots := 0, locals := 42 } D cs (AM a) (WM a cs μ) [.ref (a 0), .int x1] r (WM a cs μ1) := by
  refine met_of rfl (by decide +kernel) (Nat.le_of_ble_eq_true rfl) (fun p e s m below meth c C hK hr hlk => ?_)
  unfold F_M_wet at hF
  show G p l e { frames := 2, cells := 0, slots := 0, locals := 42 } s m _ below meth c _ D (AM a) 3 (WM a cs μ) 0 [(0, .ref (a 0)), (1, .int x1)] []
  refine g_aload_n (pc1 := 1) C d_M_wet_0 rfl rfl 0 rfl ?_
  refine g_iconst (pc1 := 2) (v := (0 : Int32)) C d_M_wet_1 rfl ic_0 ?_
  refine put_WM_0_thrown (pc1 := 5) C hK kw_178 d_M_wet_2 rfl ?_
  refine g_iload_n (pc1 := 6) C d_M_wet_5 rfl rfl 1 rfl ?_
  refine g_i2l (pc1 := 7) C d_M_wet_6 rfl ?_
  refine g_lconst (pc1 := 8) (v := (0 : Int64)) C d_M_wet_7 rfl lc_0 ?_
  refine g_ldc2 (pc1 := 11) (v := (9 : Int64)) C d_M_wet_8 rfl kw_185 ?_
  obtain ⟨r1, hr1, hF⟩ := bnd_some hF
  refine g_callSI (pc1 := 14) (As := [.long (x1.toInt64), .long (0 : Int64), .long (9 : Int64)]) (rest := []) C 3 (c_M_in l (x1.toInt64) (0 : Int64) (9 : Int64) r1 hr1) s_M_in kw_173 rfl ⟨Nat.le_of_ble_eq_true rfl, Nat.le_of_ble_eq_true rfl⟩ ⟨rfl, rfl⟩ d_M_wet_11 rfl rfl (Nat.le_of_ble_eq_true rfl) ?_
  refine g_if_ne (pc1 := 17) C 22 d_M_wet_14 rfl (by decide) (fun c1 => ?_) (fun c1 => ?_)
  · replace hF := ite_f hF c1
    refine g_aload_n (pc1 := 23) C d_M_wet_22 rfl rfl 0 rfl ?_
    refine get_WM_0_field (pc1 := 26) C hK kw_172 d_M_wet_23 rfl ?_
    refine g_iconst (pc1 := 27) (v := (2 : Int32)) C d_M_wet_26 rfl ic_2 ?_
    have hg := gd_some hF
    replace hF := hg.2
    refine g_iald (pc1 := 28) C hK 2 (f := (μ.1 2)) rfl hg.1 d_M_wet_27 rfl ?_
    refine g_istore_n (pc1 := 29) (L1 := [(2, .int ((μ.1 2) (2 : Int32).toNatClampNeg)), (0, .ref (a 0)), (1, .int x1)]) C d_M_wet_28 rfl rfl (by decide) rfl ?_
    refine g_aload_n (pc1 := 30) C d_M_wet_29 rfl rfl 1 rfl ?_
    refine get_WM_0_field (pc1 := 33) C hK kw_172 d_M_wet_30 rfl ?_
    refine g_iconst (pc1 := 34) (v := (2 : Int32)) C d_M_wet_33 rfl ic_2 ?_
    refine g_iload_n (pc1 := 35) C d_M_wet_34 rfl rfl 2 rfl ?_
    have hg := gd_some hF
    replace hF := hg.2
    refine g_iast (pc1 := 36) (ws1 := WM a cs (stI (stI μ 0 0 (0 : Int32)) 2 (2 : Int32).toNatClampNeg x1)) C hK 2 (f := (μ.1 2)) rfl hg.1 (set_WM_2 _ _ _ _ _) d_M_wet_35 rfl ?_
    refine g_iload_n (pc1 := 37) C d_M_wet_36 rfl rfl 0 rfl ?_
    exact g_iret C hr hlk d_M_wet_37 (fst_of hF) (congrArg (WM a cs) (snd_of hF))
  · replace hF := ite_t hF c1
    refine g_aload_n (pc1 := 18) C d_M_wet_17 rfl rfl 0 rfl ?_
    obtain ⟨⟨r2, m2⟩, hm2, hF⟩ := bnd_some hF
    refine g_callVI (pc1 := 21) (ws1 := WM a cs m2) (As := []) (rest := []) (b := a 0) C hK 0 (c_M_bad l D cs a (stI μ 0 0 (0 : Int32))  r2 m2 hm2) s_M_bad kw_182 0 rfl rfl rfl ⟨Nat.le_of_ble_eq_true rfl, Nat.le_of_ble_eq_true rfl⟩ ⟨rfl, rfl⟩ d_M_wet_18 rfl rfl (Nat.le_of_ble_eq_true rfl) ?_
    exact g_iret C hr hlk d_M_wet_21 (fst_of hF) (congrArg (WM a cs) (snd_of hF))
-- TentPegsModel.wall(IZ)I
set_option maxHeartbeats 4000000 in
set_option maxRecDepth 100000 in
theorem c_M_wall (l : Launch) (D : va_G) (cs : Nat → ClassId) (a : Nat → Nat) (μ : Mem) (x1 : Int32) (x2 : Int32) (r : Int32) (μ1 : Mem) (hF : F_M_wall μ x1 x2 = some (r, μ1)) : MetI l y_M_wall b_M_wall 3 (some .int) { frames := 2, cells := 0, slots := 0, locals := 45 } D cs (AM a) (WM a cs μ) [.ref (a 0), .int x1, .int x2] r (WM a cs μ1) := by
  refine met_of rfl (by decide +kernel) (Nat.le_of_ble_eq_true rfl) (fun p e s m below meth c C hK hr hlk => ?_)
  unfold F_M_wall at hF
  show G p l e { frames := 2, cells := 0, slots := 0, locals := 45 } s m _ below meth c _ D (AM a) 3 (WM a cs μ) 0 [(0, .ref (a 0)), (1, .int x1), (2, .int x2)] []
  refine g_aload_n (pc1 := 1) C d_M_wall_0 rfl rfl 0 rfl ?_
  refine g_iconst (pc1 := 2) (v := (0 : Int32)) C d_M_wall_1 rfl ic_0 ?_
  refine put_WM_0_thrown (pc1 := 5) C hK kw_178 d_M_wall_2 rfl ?_
  refine g_iload_n (pc1 := 6) C d_M_wall_5 rfl rfl 1 rfl ?_
  obtain ⟨r1, hr1, hF⟩ := bnd_some hF
  refine g_callSI (pc1 := 9) (As := [.int x1]) (rest := []) C 1 (c_M_noWay l x1 r1 hr1) s_M_noWay kw_175 rfl ⟨Nat.le_of_ble_eq_true rfl, Nat.le_of_ble_eq_true rfl⟩ ⟨rfl, rfl⟩ d_M_wall_6 rfl rfl (Nat.le_of_ble_eq_true rfl) ?_
  refine g_if_eq (pc1 := 12) C 17 d_M_wall_9 rfl (by decide) (fun c1 => ?_) (fun c1 => ?_)
  · replace hF := ite_t hF c1
    refine g_aload_n (pc1 := 18) C d_M_wall_17 rfl rfl 0 rfl ?_
    refine get_WM_0_field (pc1 := 21) C hK kw_172 d_M_wall_18 rfl ?_
    refine g_iconst (pc1 := 22) (v := (3 : Int32)) C d_M_wall_21 rfl ic_3 ?_
    have hg := gd_some hF
    replace hF := hg.2
    refine g_iald (pc1 := 23) C hK 2 (f := (μ.1 2)) rfl hg.1 d_M_wall_22 rfl ?_
    refine g_iload_n (pc1 := 24) C d_M_wall_23 rfl rfl 1 rfl ?_
    obtain ⟨r2, hr2, hF⟩ := bnd_some hF
    refine g_callSI (pc1 := 27) (As := [.int ((μ.1 2) (3 : Int32).toNatClampNeg), .int x1]) (rest := []) C 2 (c_M_has l ((μ.1 2) (3 : Int32).toNatClampNeg) x1 r2 hr2) s_M_has kw_188 rfl ⟨Nat.le_of_ble_eq_true rfl, Nat.le_of_ble_eq_true rfl⟩ ⟨rfl, rfl⟩ d_M_wall_24 rfl rfl (Nat.le_of_ble_eq_true rfl) ?_
    refine g_iload_n (pc1 := 28) C d_M_wall_27 rfl rfl 2 rfl ?_
    refine g_icmp_ne (pc1 := 31) C 36 d_M_wall_28 rfl (by decide) (fun c1 => ?_) (fun c1 => ?_)
    · replace hF := ite_f hF c1
      refine g_aload_n (pc1 := 37) C d_M_wall_36 rfl rfl 0 rfl ?_
      refine get_WM_0_field (pc1 := 40) C hK kw_172 d_M_wall_37 rfl ?_
      refine g_iconst (pc1 := 41) (v := (3 : Int32)) C d_M_wall_40 rfl ic_3 ?_
      refine g_dup2 (pc1 := 42) C d_M_wall_41 rfl rfl rfl ?_
      have hg := gd_some hF
      replace hF := hg.2
      refine g_iald (pc1 := 43) C hK 2 (f := (μ.1 2)) rfl hg.1 d_M_wall_42 rfl ?_
      refine g_iconst (pc1 := 44) (v := (1 : Int32)) C d_M_wall_43 rfl ic_1 ?_
      refine g_iload_n (pc1 := 45) C d_M_wall_44 rfl rfl 1 rfl ?_
      refine g_ishl (pc1 := 46) C d_M_wall_45 rfl ?_
      refine g_ixor (pc1 := 47) C d_M_wall_46 rfl ?_
      have hg := gd_some hF
      replace hF := hg.2
      refine g_iast (pc1 := 48) (ws1 := WM a cs (stI (stI μ 0 0 (0 : Int32)) 2 (3 : Int32).toNatClampNeg (((μ.1 2) (3 : Int32).toNatClampNeg) ^^^ ((1 : Int32) <<< (x1 &&& 31))))) C hK 2 (f := (μ.1 2)) rfl hg.1 (set_WM_2 _ _ _ _ _) d_M_wall_47 rfl ?_
      refine g_iconst (pc1 := 49) (v := (1 : Int32)) C d_M_wall_48 rfl ic_1 ?_
      exact g_iret C hr hlk d_M_wall_49 (fst_of hF) (congrArg (WM a cs) (snd_of hF))
    · replace hF := ite_t hF c1
      refine g_aload_n (pc1 := 32) C d_M_wall_31 rfl rfl 0 rfl ?_
      obtain ⟨⟨r3, m3⟩, hm3, hF⟩ := bnd_some hF
      refine g_callVI (pc1 := 35) (ws1 := WM a cs m3) (As := []) (rest := []) (b := a 0) C hK 0 (c_M_no l D cs a (stI μ 0 0 (0 : Int32))  r3 m3 hm3) s_M_no kw_189 0 rfl rfl rfl ⟨Nat.le_of_ble_eq_true rfl, Nat.le_of_ble_eq_true rfl⟩ ⟨rfl, rfl⟩ d_M_wall_32 rfl rfl (Nat.le_of_ble_eq_true rfl) ?_
      exact g_iret C hr hlk d_M_wall_35 (fst_of hF) (congrArg (WM a cs) (snd_of hF))
  · replace hF := ite_f hF c1
    refine g_aload_n (pc1 := 13) C d_M_wall_12 rfl rfl 0 rfl ?_
    obtain ⟨⟨r4, m4⟩, hm4, hF⟩ := bnd_some hF
    refine g_callVI (pc1 := 16) (ws1 := WM a cs m4) (As := []) (rest := []) (b := a 0) C hK 0 (c_M_bad l D cs a (stI μ 0 0 (0 : Int32))  r4 m4 hm4) s_M_bad kw_182 0 rfl rfl rfl ⟨Nat.le_of_ble_eq_true rfl, Nat.le_of_ble_eq_true rfl⟩ ⟨rfl, rfl⟩ d_M_wall_13 rfl rfl (Nat.le_of_ble_eq_true rfl) ?_
    exact g_iret C hr hlk d_M_wall_16 (fst_of hF) (congrArg (WM a cs) (snd_of hF))
-- TentPegsModel.odds(II)I
set_option maxHeartbeats 4000000 in
set_option maxRecDepth 100000 in
theorem p_M_odds_24 {p : Program} {l : Launch} {e : Env} {s : State} {m : MethodId} {args : Array Value} {below : List Frame} {meth : Method} {c : Code} {D : va_G} {cs : Nat → ClassId} {a : Nat → Nat} {r : Int32} {μ1 : Mem} (C : Cx p s m args c b_M_odds 4 "TentPegsModel") (hK : va_K D classes (tys cs) s) (hr : meth.sig.returnType = (some .int)) (hlk : meth.locks = false)  (μ : Mem)  (hF : F_M_odds_24  μ = some (r, μ1)) : G p l e { frames := 2, cells := 0, slots := 0, locals := 45 } s m args below meth c (MQ below (Qi (AM a) D (WM a cs μ1) r) args s 0 0 (AM a)) D (AM a) 4 (WM a cs μ) 24 [(0, .ref (a 0))] [] := by
  unfold F_M_odds_24 at hF
  refine g_aload_n (pc1 := 25) C d_M_odds_24 rfl rfl 0 rfl ?_
  obtain ⟨⟨r1, m1⟩, hm1, hF⟩ := bnd_some hF
  refine g_callVI (pc1 := 28) (ws1 := WM a cs m1) (As := []) (rest := []) (b := a 0) C hK 0 (c_M_bad l D cs a μ  r1 m1 hm1) s_M_bad kw_182 0 rfl rfl rfl ⟨Nat.le_of_ble_eq_true rfl, Nat.le_of_ble_eq_true rfl⟩ ⟨rfl, rfl⟩ d_M_odds_25 rfl rfl (Nat.le_of_ble_eq_true rfl) ?_
  exact g_iret C hr hlk d_M_odds_28 (fst_of hF) (congrArg (WM a cs) (snd_of hF))
set_option maxHeartbeats 4000000 in
set_option maxRecDepth 100000 in
theorem c_M_odds (l : Launch) (D : va_G) (cs : Nat → ClassId) (a : Nat → Nat) (μ : Mem) (x1 : Int32) (x2 : Int32) (r : Int32) (μ1 : Mem) (hF : F_M_odds μ x1 x2 = some (r, μ1)) : MetI l y_M_odds b_M_odds 4 (some .int) { frames := 2, cells := 0, slots := 0, locals := 45 } D cs (AM a) (WM a cs μ) [.ref (a 0), .int x1, .int x2] r (WM a cs μ1) := by
  refine met_of rfl (by decide +kernel) (Nat.le_of_ble_eq_true rfl) (fun p e s m below meth c C hK hr hlk => ?_)
  unfold F_M_odds at hF
  show G p l e { frames := 2, cells := 0, slots := 0, locals := 45 } s m _ below meth c _ D (AM a) 4 (WM a cs μ) 0 [(0, .ref (a 0)), (1, .int x1), (2, .int x2)] []
  refine g_aload_n (pc1 := 1) C d_M_odds_0 rfl rfl 0 rfl ?_
  refine g_iconst (pc1 := 2) (v := (0 : Int32)) C d_M_odds_1 rfl ic_0 ?_
  refine put_WM_0_thrown (pc1 := 5) C hK kw_178 d_M_odds_2 rfl ?_
  refine g_iload_n (pc1 := 6) C d_M_odds_5 rfl rfl 1 rfl ?_
  obtain ⟨r1, hr1, hF⟩ := bnd_some hF
  refine g_callSI (pc1 := 9) (As := [.int x1]) (rest := []) C 1 (c_M_noWay l x1 r1 hr1) s_M_noWay kw_175 rfl ⟨Nat.le_of_ble_eq_true rfl, Nat.le_of_ble_eq_true rfl⟩ ⟨rfl, rfl⟩ d_M_odds_6 rfl rfl (Nat.le_of_ble_eq_true rfl) ?_
  refine g_if_ne (pc1 := 12) C 24 d_M_odds_9 rfl (by decide) (fun c1 => ?_) (fun c1 => ?_)
  · replace hF := ite_f hF c1
    exact g_sub [0] rfl (p_M_odds_24 C hK hr hlk  (stI μ 0 0 (0 : Int32)) hF)
  · replace hF := ite_t hF c1
    refine g_iload_n (pc1 := 13) C d_M_odds_12 rfl rfl 2 rfl ?_
    refine g_i2l (pc1 := 14) C d_M_odds_13 rfl ?_
    refine g_lconst (pc1 := 15) (v := (0 : Int64)) C d_M_odds_14 rfl lc_0 ?_
    refine g_ldc2 (pc1 := 18) (v := (20 : Int64)) C d_M_odds_15 rfl kw_190 ?_
    obtain ⟨r2, hr2, hF⟩ := bnd_some hF
    refine g_callSI (pc1 := 21) (As := [.long (x2.toInt64), .long (0 : Int64), .long (20 : Int64)]) (rest := []) C 3 (c_M_in l (x2.toInt64) (0 : Int64) (20 : Int64) r2 hr2) s_M_in kw_173 rfl ⟨Nat.le_of_ble_eq_true rfl, Nat.le_of_ble_eq_true rfl⟩ ⟨rfl, rfl⟩ d_M_odds_18 rfl rfl (Nat.le_of_ble_eq_true rfl) ?_
    refine g_if_ne (pc1 := 24) C 29 d_M_odds_21 rfl (by decide) (fun c1 => ?_) (fun c1 => ?_)
    · replace hF := ite_f hF c1
      refine g_aload_n (pc1 := 30) C d_M_odds_29 rfl rfl 0 rfl ?_
      refine get_WM_0_field (pc1 := 33) C hK kw_172 d_M_odds_30 rfl ?_
      refine g_bipush (pc1 := 35) (v := (29 : Int32)) C d_M_odds_33 rfl bp_29 ?_
      refine g_iload_n (pc1 := 36) C d_M_odds_35 rfl rfl 1 rfl ?_
      refine g_iadd (pc1 := 37) C d_M_odds_36 rfl ?_
      have hg := gd_some hF
      replace hF := hg.2
      refine g_iald (pc1 := 38) C hK 2 (f := (μ.1 2)) rfl hg.1 d_M_odds_37 rfl ?_
      refine g_istore_n (pc1 := 39) (L1 := [(3, .int ((μ.1 2) ((29 : Int32) + x1).toNatClampNeg)), (0, .ref (a 0)), (1, .int x1), (2, .int x2)]) C d_M_odds_38 rfl rfl (by decide) rfl ?_
      refine g_aload_n (pc1 := 40) C d_M_odds_39 rfl rfl 1 rfl ?_
      refine get_WM_0_field (pc1 := 43) C hK kw_172 d_M_odds_40 rfl ?_
      refine g_bipush (pc1 := 45) (v := (29 : Int32)) C d_M_odds_43 rfl bp_29 ?_
      refine g_iload_n (pc1 := 46) C d_M_odds_45 rfl rfl 2 rfl ?_
      refine g_iadd (pc1 := 47) C d_M_odds_46 rfl ?_
      refine g_iload_n (pc1 := 48) C d_M_odds_47 rfl rfl 3 rfl ?_
      have hg := gd_some hF
      replace hF := hg.2
      refine g_iast (pc1 := 49) (ws1 := WM a cs (stI (stI μ 0 0 (0 : Int32)) 2 ((29 : Int32) + x1).toNatClampNeg x2)) C hK 2 (f := (μ.1 2)) rfl hg.1 (set_WM_2 _ _ _ _ _) d_M_odds_48 rfl ?_
      refine g_iload_n (pc1 := 50) C d_M_odds_49 rfl rfl 0 rfl ?_
      exact g_iret C hr hlk d_M_odds_50 (fst_of hF) (congrArg (WM a cs) (snd_of hF))
    · replace hF := ite_t hF c1
      exact g_sub [0] rfl (p_M_odds_24 C hK hr hlk  (stI μ 0 0 (0 : Int32)) hF)
-- TentPegsModel.type(I)I
set_option maxHeartbeats 4000000 in
set_option maxRecDepth 100000 in
theorem c_M_type (l : Launch) (D : va_G) (cs : Nat → ClassId) (a : Nat → Nat) (μ : Mem) (x1 : Int32) (r : Int32) (μ1 : Mem) (hF : F_M_type μ x1 = some (r, μ1)) : MetI l y_M_type b_M_type 2 (some .int) { frames := 2, cells := 0, slots := 0, locals := 42 } D cs (AM a) (WM a cs μ) [.ref (a 0), .int x1] r (WM a cs μ1) := by
  refine met_of rfl (by decide +kernel) (Nat.le_of_ble_eq_true rfl) (fun p e s m below meth c C hK hr hlk => ?_)
  unfold F_M_type at hF
  show G p l e { frames := 2, cells := 0, slots := 0, locals := 42 } s m _ below meth c _ D (AM a) 2 (WM a cs μ) 0 [(0, .ref (a 0)), (1, .int x1)] []
  refine g_aload_n (pc1 := 1) C d_M_type_0 rfl rfl 0 rfl ?_
  refine g_iconst (pc1 := 2) (v := (0 : Int32)) C d_M_type_1 rfl ic_0 ?_
  refine put_WM_0_thrown (pc1 := 5) C hK kw_178 d_M_type_2 rfl ?_
  refine g_iload_n (pc1 := 6) C d_M_type_5 rfl rfl 1 rfl ?_
  refine g_i2l (pc1 := 7) C d_M_type_6 rfl ?_
  refine g_lconst (pc1 := 8) (v := (0 : Int64)) C d_M_type_7 rfl lc_0 ?_
  refine g_ldc2 (pc1 := 11) (v := (127 : Int64)) C d_M_type_8 rfl kw_191 ?_
  obtain ⟨r1, hr1, hF⟩ := bnd_some hF
  refine g_callSI (pc1 := 14) (As := [.long (x1.toInt64), .long (0 : Int64), .long (127 : Int64)]) (rest := []) C 3 (c_M_in l (x1.toInt64) (0 : Int64) (127 : Int64) r1 hr1) s_M_in kw_173 rfl ⟨Nat.le_of_ble_eq_true rfl, Nat.le_of_ble_eq_true rfl⟩ ⟨rfl, rfl⟩ d_M_type_11 rfl rfl (Nat.le_of_ble_eq_true rfl) ?_
  refine g_if_ne (pc1 := 17) C 22 d_M_type_14 rfl (by decide) (fun c1 => ?_) (fun c1 => ?_)
  · replace hF := ite_f hF c1
    refine g_aload_n (pc1 := 23) C d_M_type_22 rfl rfl 0 rfl ?_
    refine get_WM_0_size (pc1 := 26) C hK (v := (μ.1 0 7)) rfl kw_192 d_M_type_23 rfl ?_
    refine g_sipush (pc1 := 29) (v := (150 : Int32)) C d_M_type_26 rfl sp_150 ?_
    refine g_icmp_ne (pc1 := 32) C 40 d_M_type_29 rfl (by decide) (fun c1 => ?_) (fun c1 => ?_)
    · replace hF := ite_f hF c1
      refine g_aload_n (pc1 := 41) C d_M_type_40 rfl rfl 0 rfl ?_
      refine get_WM_0_text (pc1 := 44) C hK kw_193 d_M_type_41 rfl ?_
      refine g_aload_n (pc1 := 45) C d_M_type_44 rfl rfl 0 rfl ?_
      refine get_WM_0_size (pc1 := 48) C hK (v := (μ.1 0 7)) rfl kw_192 d_M_type_45 rfl ?_
      refine g_iload_n (pc1 := 49) C d_M_type_48 rfl rfl 1 rfl ?_
      have hg := gd_some hF
      replace hF := hg.2
      refine g_iast (pc1 := 50) (ws1 := WM a cs (stI (stI μ 0 0 (0 : Int32)) 6 (μ.1 0 7).toNatClampNeg x1)) C hK 6 (f := (μ.1 6)) rfl hg.1 (set_WM_6 _ _ _ _ _) d_M_type_49 rfl ?_
      refine g_aload_n (pc1 := 51) C d_M_type_50 rfl rfl 0 rfl ?_
      refine g_dup (pc1 := 52) C d_M_type_51 rfl rfl ?_
      refine get_WM_0_size (pc1 := 55) C hK (v := (μ.1 0 7)) rfl kw_192 d_M_type_52 rfl ?_
      refine g_iconst (pc1 := 56) (v := (1 : Int32)) C d_M_type_55 rfl ic_1 ?_
      refine g_iadd (pc1 := 57) C d_M_type_56 rfl ?_
      refine put_WM_0_size (pc1 := 60) C hK kw_192 d_M_type_57 rfl ?_
      refine g_aload_n (pc1 := 61) C d_M_type_60 rfl rfl 0 rfl ?_
      refine get_WM_0_size (pc1 := 64) C hK (v := ((μ.1 0 7) + (1 : Int32))) rfl kw_192 d_M_type_61 rfl ?_
      exact g_iret C hr hlk d_M_type_64 (fst_of hF) (congrArg (WM a cs) (snd_of hF))
    · replace hF := ite_t hF c1
      refine g_aload_n (pc1 := 33) C d_M_type_32 rfl rfl 0 rfl ?_
      refine g_iconst (pc1 := 34) (v := (2 : Int32)) C d_M_type_33 rfl ic_2 ?_
      refine g_bipush (pc1 := 36) (v := (-4 : Int32)) C d_M_type_34 rfl bp_m4 ?_
      obtain ⟨⟨r2, m2⟩, hm2, hF⟩ := bnd_some hF
      refine g_callVI (pc1 := 39) (ws1 := WM a cs m2) (As := [.int (2 : Int32), .int (-4 : Int32)]) (rest := []) (b := a 0) C hK 2 (c_M_refuse l D cs a (stI μ 0 0 (0 : Int32)) (2 : Int32) (-4 : Int32) r2 m2 hm2) s_M_refuse kw_171 0 rfl rfl rfl ⟨Nat.le_of_ble_eq_true rfl, Nat.le_of_ble_eq_true rfl⟩ ⟨rfl, rfl⟩ d_M_type_36 rfl rfl (Nat.le_of_ble_eq_true rfl) ?_
      exact g_iret C hr hlk d_M_type_39 (fst_of hF) (congrArg (WM a cs) (snd_of hF))
  · replace hF := ite_t hF c1
    refine g_aload_n (pc1 := 18) C d_M_type_17 rfl rfl 0 rfl ?_
    obtain ⟨⟨r3, m3⟩, hm3, hF⟩ := bnd_some hF
    refine g_callVI (pc1 := 21) (ws1 := WM a cs m3) (As := []) (rest := []) (b := a 0) C hK 0 (c_M_bad l D cs a (stI μ 0 0 (0 : Int32))  r3 m3 hm3) s_M_bad kw_182 0 rfl rfl rfl ⟨Nat.le_of_ble_eq_true rfl, Nat.le_of_ble_eq_true rfl⟩ ⟨rfl, rfl⟩ d_M_type_18 rfl rfl (Nat.le_of_ble_eq_true rfl) ?_
    exact g_iret C hr hlk d_M_type_21 (fst_of hF) (congrArg (WM a cs) (snd_of hF))
-- TentPegsModel.clear()I
set_option maxHeartbeats 4000000 in
set_option maxRecDepth 100000 in
theorem c_M_clear (l : Launch) (D : va_G) (cs : Nat → ClassId) (a : Nat → Nat) (μ : Mem)  (r : Int32) (μ1 : Mem) (hF : F_M_clear μ = some (r, μ1)) : MetI l y_M_clear b_M_clear 2 (some .int) { frames := 0, cells := 0, slots := 0, locals := 0 } D cs (AM a) (WM a cs μ) [.ref (a 0)] r (WM a cs μ1) := by
  refine met_of rfl (by decide +kernel) (Nat.le_of_ble_eq_true rfl) (fun p e s m below meth c C hK hr hlk => ?_)
  unfold F_M_clear at hF
  show G p l e { frames := 0, cells := 0, slots := 0, locals := 0 } s m _ below meth c _ D (AM a) 2 (WM a cs μ) 0 [(0, .ref (a 0))] []
  refine g_aload_n (pc1 := 1) C d_M_clear_0 rfl rfl 0 rfl ?_
  refine g_iconst (pc1 := 2) (v := (0 : Int32)) C d_M_clear_1 rfl ic_0 ?_
  refine put_WM_0_thrown (pc1 := 5) C hK kw_178 d_M_clear_2 rfl ?_
  refine g_aload_n (pc1 := 6) C d_M_clear_5 rfl rfl 0 rfl ?_
  refine get_WM_0_size (pc1 := 9) C hK (v := (μ.1 0 7)) rfl kw_192 d_M_clear_6 rfl ?_
  refine g_istore_n (pc1 := 10) (L1 := [(1, .int (μ.1 0 7)), (0, .ref (a 0))]) C d_M_clear_9 rfl rfl (by decide) rfl ?_
  refine g_aload_n (pc1 := 11) C d_M_clear_10 rfl rfl 1 rfl ?_
  refine g_iconst (pc1 := 12) (v := (0 : Int32)) C d_M_clear_11 rfl ic_0 ?_
  refine put_WM_0_size (pc1 := 15) C hK kw_192 d_M_clear_12 rfl ?_
  refine g_iload_n (pc1 := 16) C d_M_clear_15 rfl rfl 0 rfl ?_
  exact g_iret C hr hlk d_M_clear_16 (fst_of hF) (congrArg (WM a cs) (snd_of hF))
-- TentPegsModel.isFigure()Z
set_option maxHeartbeats 4000000 in
set_option maxRecDepth 100000 in
theorem c_M_isFigure (l : Launch) (D : va_G) (cs : Nat → ClassId) (a : Nat → Nat) (μ : Mem)  (r : Int32) (hF : F_M_isFigure μ = some r) : MetI l y_M_isFigure b_M_isFigure 1 (some .boolean) { frames := 1, cells := 0, slots := 0, locals := 25 } D cs (AM a) (WM a cs μ) [.ref (a 0)] r (WM a cs μ) := by
  refine met_of rfl (by decide +kernel) (Nat.le_of_ble_eq_true rfl) (fun p e s m below meth c C hK hr hlk => ?_)
  unfold F_M_isFigure at hF
  show G p l e { frames := 1, cells := 0, slots := 0, locals := 25 } s m _ below meth c _ D (AM a) 1 (WM a cs μ) 0 [(0, .ref (a 0))] []
  refine g_aload_n (pc1 := 1) C d_M_isFigure_0 rfl rfl 0 rfl ?_
  refine get_WM_0_at (pc1 := 4) C hK (v := (μ.1 0 8)) rfl kw_194 d_M_isFigure_1 rfl ?_
  refine g_aload_n (pc1 := 5) C d_M_isFigure_4 rfl rfl 0 rfl ?_
  refine get_WM_0_size (pc1 := 8) C hK (v := (μ.1 0 7)) rfl kw_192 d_M_isFigure_5 rfl ?_
  refine g_icmp_ge (pc1 := 11) C 37 d_M_isFigure_8 rfl (by decide) (fun c1 => ?_) (fun c1 => ?_)
  · replace hF := ite_t hF c1
    refine g_iconst (pc1 := 38) (v := (0 : Int32)) C d_M_isFigure_37 rfl ic_0 ?_
    exact g_zret C hr hlk rfl d_M_isFigure_38 (Option.some.inj hF) rfl
  · replace hF := ite_f hF c1
    refine g_aload_n (pc1 := 12) C d_M_isFigure_11 rfl rfl 0 rfl ?_
    refine get_WM_0_text (pc1 := 15) C hK kw_193 d_M_isFigure_12 rfl ?_
    refine g_aload_n (pc1 := 16) C d_M_isFigure_15 rfl rfl 0 rfl ?_
    refine get_WM_0_at (pc1 := 19) C hK (v := (μ.1 0 8)) rfl kw_194 d_M_isFigure_16 rfl ?_
    have hg := gd_some hF
    replace hF := hg.2
    refine g_iald (pc1 := 20) C hK 6 (f := (μ.1 6)) rfl hg.1 d_M_isFigure_19 rfl ?_
    refine g_i2l (pc1 := 21) C d_M_isFigure_20 rfl ?_
    refine g_ldc2 (pc1 := 24) (v := (48 : Int64)) C d_M_isFigure_21 rfl kw_195 ?_
    refine g_ldc2 (pc1 := 27) (v := (57 : Int64)) C d_M_isFigure_24 rfl kw_196 ?_
    obtain ⟨r1, hr1, hF⟩ := bnd_some hF
    refine g_callSI (pc1 := 30) (As := [.long (((μ.1 6) (μ.1 0 8).toNatClampNeg).toInt64), .long (48 : Int64), .long (57 : Int64)]) (rest := []) C 3 (c_M_in l (((μ.1 6) (μ.1 0 8).toNatClampNeg).toInt64) (48 : Int64) (57 : Int64) r1 hr1) s_M_in kw_173 rfl ⟨Nat.le_of_ble_eq_true rfl, Nat.le_of_ble_eq_true rfl⟩ ⟨rfl, rfl⟩ d_M_isFigure_27 rfl rfl (Nat.le_of_ble_eq_true rfl) ?_
    refine g_if_eq (pc1 := 33) C 37 d_M_isFigure_30 rfl (by decide) (fun c1 => ?_) (fun c1 => ?_)
    · replace hF := ite_t hF c1
      refine g_iconst (pc1 := 38) (v := (0 : Int32)) C d_M_isFigure_37 rfl ic_0 ?_
      exact g_zret C hr hlk rfl d_M_isFigure_38 (Option.some.inj hF) rfl
    · replace hF := ite_f hF c1
      refine g_iconst (pc1 := 34) (v := (1 : Int32)) C d_M_isFigure_33 rfl ic_1 ?_
      refine g_goto C 38 d_M_isFigure_34 (by decide) ?_
      exact g_zret C hr hlk rfl d_M_isFigure_38 (Option.some.inj hF) rfl
-- TentPegsModel.next()V
set_option maxHeartbeats 4000000 in
set_option maxRecDepth 100000 in
theorem p_M_next_297 {p : Program} {l : Launch} {e : Env} {s : State} {m : MethodId} {args : Array Value} {below : List Frame} {meth : Method} {c : Code} {D : va_G} {cs : Nat → ClassId} {a : Nat → Nat} {μ1 : Mem} (C : Cx p s m args c b_M_next 2 "TentPegsModel") (hK : va_K D classes (tys cs) s) (hr : meth.sig.returnType = none) (hlk : meth.locks = false)  (μ : Mem) (s0 : Int32) (hF : F_M_next_297  μ s0 = some μ1) : G p l e { frames := 2, cells := 0, slots := 0, locals := 45 } s m args below meth c (MQ below (Qv (AM a) D (WM a cs μ1)) args s 0 0 (AM a)) D (AM a) 2 (WM a cs μ) 297 [(0, .ref (a 0))] [.int s0, .ref (a 0)] := by
  unfold F_M_next_297 at hF
  refine put_WM_0_token (pc1 := 300) C hK kw_202 d_M_next_297 rfl ?_
  refine g_aload_n (pc1 := 301) C d_M_next_300 rfl rfl 0 rfl ?_
  refine g_dup (pc1 := 302) C d_M_next_301 rfl rfl ?_
  refine get_WM_0_at (pc1 := 305) C hK (v := (μ.1 0 8)) rfl kw_194 d_M_next_302 rfl ?_
  refine g_iconst (pc1 := 306) (v := (1 : Int32)) C d_M_next_305 rfl ic_1 ?_
  refine g_iadd (pc1 := 307) C d_M_next_306 rfl ?_
  refine put_WM_0_at (pc1 := 310) C hK kw_194 d_M_next_307 rfl ?_
  exact g_vret C hr hlk d_M_next_310 (congrArg (WM a cs) (Option.some.inj hF))
set_option maxHeartbeats 4000000 in
set_option maxRecDepth 100000 in
theorem p_M_next_241 {p : Program} {l : Launch} {e : Env} {s : State} {m : MethodId} {args : Array Value} {below : List Frame} {meth : Method} {c : Code} {D : va_G} {cs : Nat → ClassId} {a : Nat → Nat} {μ1 : Mem} (C : Cx p s m args c b_M_next 2 "TentPegsModel") (hK : va_K D classes (tys cs) s) (hr : meth.sig.returnType = none) (hlk : meth.locks = false) (K198 : Mem → Int32 → Option Mem) (hK198 : ∀ (μ : Mem) (x1 : Int32), K198 μ x1 = some μ1 → G p l e { frames := 2, cells := 0, slots := 0, locals := 45 } s m args below meth c (MQ below (Qv (AM a) D (WM a cs μ1)) args s 0 0 (AM a)) D (AM a) 2 (WM a cs μ) 198 [(0, .ref (a 0)), (1, .int x1)] []) (μ : Mem) (x1 : Int32) (s0 : Int64) (hF : F_M_next_241 K198 μ x1 s0 = some μ1) : G p l e { frames := 2, cells := 0, slots := 0, locals := 45 } s m args below meth c (MQ below (Qv (AM a) D (WM a cs μ1)) args s 0 0 (AM a)) D (AM a) 2 (WM a cs μ) 241 [(0, .ref (a 0)), (1, .int x1)] [.long s0, .ref (a 0)] := by
  unfold F_M_next_241 at hF
  refine put_WM_0_value (pc1 := 244) C hK kw_198 d_M_next_241 rfl ?_
  refine g_iinc (pc1 := 247) (v := (x1 + (1 : Int32))) (L1 := [(1, .int (x1 + (1 : Int32))), (0, .ref (a 0))]) C d_M_next_244 rfl 1 rfl (by rw [ic_1]) (by decide) rfl ?_
  refine g_aload_n (pc1 := 248) C d_M_next_247 rfl rfl 1 rfl ?_
  refine g_dup (pc1 := 249) C d_M_next_248 rfl rfl ?_
  refine get_WM_0_at (pc1 := 252) C hK (v := (μ.1 0 8)) rfl kw_194 d_M_next_249 rfl ?_
  refine g_iconst (pc1 := 253) (v := (1 : Int32)) C d_M_next_252 rfl ic_1 ?_
  refine g_iadd (pc1 := 254) C d_M_next_253 rfl ?_
  refine put_WM_0_at (pc1 := 257) C hK kw_194 d_M_next_254 rfl ?_
  refine g_goto C 198 d_M_next_257 (by decide) ?_
  exact g_sub [1, 0] rfl (hK198 (stI (stL μ 11 s0) 0 8 ((μ.1 0 8) + (1 : Int32))) (x1 + (1 : Int32)) hF)
set_option maxHeartbeats 4000000 in
set_option maxRecDepth 100000 in
theorem p_M_next_198 {p : Program} {l : Launch} {e : Env} {s : State} {m : MethodId} {args : Array Value} {below : List Frame} {meth : Method} {c : Code} {D : va_G} {cs : Nat → ClassId} {a : Nat → Nat} {μ1 : Mem} (C : Cx p s m args c b_M_next 2 "TentPegsModel") (hK : va_K D classes (tys cs) s) (hr : meth.sig.returnType = none) (hlk : meth.locks = false)  : ∀ (μ : Mem) (x1 : Int32), F_M_next_198  μ x1 = some μ1 → G p l e { frames := 2, cells := 0, slots := 0, locals := 45 } s m args below meth c (MQ below (Qv (AM a) D (WM a cs μ1)) args s 0 0 (AM a)) D (AM a) 2 (WM a cs μ) 198 [(0, .ref (a 0)), (1, .int x1)] [] := by
  refine iter_ind (fun (K198 : Mem → Int32 → Option Mem) => ∀ (μ : Mem) (x1 : Int32), K198 μ x1 = some μ1 → G p l e { frames := 2, cells := 0, slots := 0, locals := 45 } s m args below meth c (MQ below (Qv (AM a) D (WM a cs μ1)) args s 0 0 (AM a)) D (AM a) 2 (WM a cs μ) 198 [(0, .ref (a 0)), (1, .int x1)] []) ?_ ?_ NF
  · intro μ x1 hF
    exact none_no hF
  · intro K198 hK198 μ x1 hF
    unfold S_M_next_198 at hF
    refine g_aload_n (pc1 := 199) C d_M_next_198 rfl rfl 0 rfl ?_
    obtain ⟨r1, hr1, hF⟩ := bnd_some hF
    refine g_callVI (pc1 := 202) (ws1 := WM a cs μ) (As := []) (rest := []) (b := a 0) C hK 0 (c_M_isFigure l D cs a μ  r1 hr1) s_M_isFigure kw_201 0 rfl rfl rfl ⟨Nat.le_of_ble_eq_true rfl, Nat.le_of_ble_eq_true rfl⟩ ⟨rfl, rfl⟩ d_M_next_199 rfl rfl (Nat.le_of_ble_eq_true rfl) ?_
    refine g_if_eq (pc1 := 205) C 260 d_M_next_202 rfl (by decide) (fun c1 => ?_) (fun c1 => ?_)
    · replace hF := ite_t hF c1
      refine g_aload_n (pc1 := 261) C d_M_next_260 rfl rfl 0 rfl ?_
      refine g_iload_n (pc1 := 262) C d_M_next_261 rfl rfl 1 rfl ?_
      refine g_iconst (pc1 := 263) (v := (2 : Int32)) C d_M_next_262 rfl ic_2 ?_
      refine g_icmp_le (pc1 := 266) C 270 d_M_next_263 rfl (by decide) (fun c1 => ?_) (fun c1 => ?_)
      · replace hF := ite_t hF c1
        refine g_iconst (pc1 := 271) (v := (3 : Int32)) C d_M_next_270 rfl ic_3 ?_
        refine put_WM_0_token (pc1 := 274) C hK kw_202 d_M_next_271 rfl ?_
        refine g_goto C 310 d_M_next_274 (by decide) ?_
        exact g_vret C hr hlk d_M_next_310 (congrArg (WM a cs) (Option.some.inj hF))
      · replace hF := ite_f hF c1
        refine g_iconst (pc1 := 267) (v := (0 : Int32)) C d_M_next_266 rfl ic_0 ?_
        refine g_goto C 271 d_M_next_267 (by decide) ?_
        refine put_WM_0_token (pc1 := 274) C hK kw_202 d_M_next_271 rfl ?_
        refine g_goto C 310 d_M_next_274 (by decide) ?_
        exact g_vret C hr hlk d_M_next_310 (congrArg (WM a cs) (Option.some.inj hF))
    · replace hF := ite_f hF c1
      refine g_aload_n (pc1 := 206) C d_M_next_205 rfl rfl 0 rfl ?_
      refine g_iload_n (pc1 := 207) C d_M_next_206 rfl rfl 1 rfl ?_
      refine g_iconst (pc1 := 208) (v := (2 : Int32)) C d_M_next_207 rfl ic_2 ?_
      refine g_icmp_ge (pc1 := 211) C 237 d_M_next_208 rfl (by decide) (fun c1 => ?_) (fun c1 => ?_)
      · replace hF := ite_t hF c1
        refine g_aload_n (pc1 := 238) C d_M_next_237 rfl rfl 0 rfl ?_
        refine get_WM_0_value (pc1 := 241) C hK (v := (μ.2 11)) rfl kw_198 d_M_next_238 rfl ?_
        exact g_sub [0, 1] rfl (p_M_next_241 C hK hr hlk K198 hK198 μ x1 (μ.2 11) hF)
      · replace hF := ite_f hF c1
        refine g_ldc2 (pc1 := 214) (v := (10 : Int64)) C d_M_next_211 rfl kw_203 ?_
        refine g_aload_n (pc1 := 215) C d_M_next_214 rfl rfl 0 rfl ?_
        refine get_WM_0_value (pc1 := 218) C hK (v := (μ.2 11)) rfl kw_198 d_M_next_215 rfl ?_
        refine g_lmul (pc1 := 219) C d_M_next_218 rfl ?_
        refine g_aload_n (pc1 := 220) C d_M_next_219 rfl rfl 0 rfl ?_
        refine get_WM_0_text (pc1 := 223) C hK kw_193 d_M_next_220 rfl ?_
        refine g_aload_n (pc1 := 224) C d_M_next_223 rfl rfl 0 rfl ?_
        refine get_WM_0_at (pc1 := 227) C hK (v := (μ.1 0 8)) rfl kw_194 d_M_next_224 rfl ?_
        have hg := gd_some hF
        replace hF := hg.2
        refine g_iald (pc1 := 228) C hK 6 (f := (μ.1 6)) rfl hg.1 d_M_next_227 rfl ?_
        refine g_i2l (pc1 := 229) C d_M_next_228 rfl ?_
        refine g_ladd (pc1 := 230) C d_M_next_229 rfl ?_
        refine g_ldc2 (pc1 := 233) (v := (48 : Int64)) C d_M_next_230 rfl kw_195 ?_
        refine g_lsub (pc1 := 234) C d_M_next_233 rfl ?_
        refine g_goto C 241 d_M_next_234 (by decide) ?_
        exact g_sub [0, 1] rfl (p_M_next_241 C hK hr hlk K198 hK198 μ x1 ((((10 : Int64) * (μ.2 11)) + (((μ.1 6) (μ.1 0 8).toNatClampNeg).toInt64)) - (48 : Int64)) hF)
set_option maxHeartbeats 4000000 in
set_option maxRecDepth 100000 in
theorem p_M_next_167 {p : Program} {l : Launch} {e : Env} {s : State} {m : MethodId} {args : Array Value} {below : List Frame} {meth : Method} {c : Code} {D : va_G} {cs : Nat → ClassId} {a : Nat → Nat} {μ1 : Mem} (C : Cx p s m args c b_M_next 2 "TentPegsModel") (hK : va_K D classes (tys cs) s) (hr : meth.sig.returnType = none) (hlk : meth.locks = false) (K99 : Mem → Int32 → Option Mem) (hK99 : ∀ (μ : Mem) (x1 : Int32), K99 μ x1 = some μ1 → G p l e { frames := 2, cells := 0, slots := 0, locals := 45 } s m args below meth c (MQ below (Qv (AM a) D (WM a cs μ1)) args s 0 0 (AM a)) D (AM a) 2 (WM a cs μ) 99 [(0, .ref (a 0)), (1, .int x1)] []) (μ : Mem) (x1 : Int32) (s0 : Int64) (hF : F_M_next_167 K99 μ x1 s0 = some μ1) : G p l e { frames := 2, cells := 0, slots := 0, locals := 45 } s m args below meth c (MQ below (Qv (AM a) D (WM a cs μ1)) args s 0 0 (AM a)) D (AM a) 2 (WM a cs μ) 167 [(0, .ref (a 0)), (1, .int x1)] [.long s0, .ref (a 0)] := by
  unfold F_M_next_167 at hF
  refine put_WM_0_value (pc1 := 170) C hK kw_198 d_M_next_167 rfl ?_
  refine g_iinc (pc1 := 173) (v := (x1 + (1 : Int32))) (L1 := [(1, .int (x1 + (1 : Int32))), (0, .ref (a 0))]) C d_M_next_170 rfl 1 rfl (by rw [ic_1]) (by decide) rfl ?_
  refine g_aload_n (pc1 := 174) C d_M_next_173 rfl rfl 1 rfl ?_
  refine g_dup (pc1 := 175) C d_M_next_174 rfl rfl ?_
  refine get_WM_0_at (pc1 := 178) C hK (v := (μ.1 0 8)) rfl kw_194 d_M_next_175 rfl ?_
  refine g_iconst (pc1 := 179) (v := (1 : Int32)) C d_M_next_178 rfl ic_1 ?_
  refine g_iadd (pc1 := 180) C d_M_next_179 rfl ?_
  refine put_WM_0_at (pc1 := 183) C hK kw_194 d_M_next_180 rfl ?_
  refine g_goto C 99 d_M_next_183 (by decide) ?_
  exact g_sub [1, 0] rfl (hK99 (stI (stL μ 11 s0) 0 8 ((μ.1 0 8) + (1 : Int32))) (x1 + (1 : Int32)) hF)
set_option maxHeartbeats 4000000 in
set_option maxRecDepth 100000 in
theorem p_M_next_99 {p : Program} {l : Launch} {e : Env} {s : State} {m : MethodId} {args : Array Value} {below : List Frame} {meth : Method} {c : Code} {D : va_G} {cs : Nat → ClassId} {a : Nat → Nat} {μ1 : Mem} (C : Cx p s m args c b_M_next 2 "TentPegsModel") (hK : va_K D classes (tys cs) s) (hr : meth.sig.returnType = none) (hlk : meth.locks = false)  : ∀ (μ : Mem) (x1 : Int32), F_M_next_99  μ x1 = some μ1 → G p l e { frames := 2, cells := 0, slots := 0, locals := 45 } s m args below meth c (MQ below (Qv (AM a) D (WM a cs μ1)) args s 0 0 (AM a)) D (AM a) 2 (WM a cs μ) 99 [(0, .ref (a 0)), (1, .int x1)] [] := by
  refine iter_ind (fun (K99 : Mem → Int32 → Option Mem) => ∀ (μ : Mem) (x1 : Int32), K99 μ x1 = some μ1 → G p l e { frames := 2, cells := 0, slots := 0, locals := 45 } s m args below meth c (MQ below (Qv (AM a) D (WM a cs μ1)) args s 0 0 (AM a)) D (AM a) 2 (WM a cs μ) 99 [(0, .ref (a 0)), (1, .int x1)] []) ?_ ?_ NF
  · intro μ x1 hF
    exact none_no hF
  · intro K99 hK99 μ x1 hF
    unfold S_M_next_99 at hF
    refine g_aload_n (pc1 := 100) C d_M_next_99 rfl rfl 0 rfl ?_
    refine get_WM_0_at (pc1 := 103) C hK (v := (μ.1 0 8)) rfl kw_194 d_M_next_100 rfl ?_
    refine g_aload_n (pc1 := 104) C d_M_next_103 rfl rfl 0 rfl ?_
    refine get_WM_0_size (pc1 := 107) C hK (v := (μ.1 0 7)) rfl kw_192 d_M_next_104 rfl ?_
    refine g_icmp_ge (pc1 := 110) C 310 d_M_next_107 rfl (by decide) (fun c1 => ?_) (fun c1 => ?_)
    · replace hF := ite_t hF c1
      exact g_vret C hr hlk d_M_next_310 (congrArg (WM a cs) (Option.some.inj hF))
    · replace hF := ite_f hF c1
      refine g_aload_n (pc1 := 111) C d_M_next_110 rfl rfl 0 rfl ?_
      refine get_WM_0_text (pc1 := 114) C hK kw_193 d_M_next_111 rfl ?_
      refine g_aload_n (pc1 := 115) C d_M_next_114 rfl rfl 0 rfl ?_
      refine get_WM_0_at (pc1 := 118) C hK (v := (μ.1 0 8)) rfl kw_194 d_M_next_115 rfl ?_
      have hg := gd_some hF
      replace hF := hg.2
      refine g_iald (pc1 := 119) C hK 6 (f := (μ.1 6)) rfl hg.1 d_M_next_118 rfl ?_
      refine g_i2l (pc1 := 120) C d_M_next_119 rfl ?_
      refine g_ldc2 (pc1 := 123) (v := (97 : Int64)) C d_M_next_120 rfl kw_199 ?_
      refine g_ldc2 (pc1 := 126) (v := (122 : Int64)) C d_M_next_123 rfl kw_200 ?_
      obtain ⟨r1, hr1, hF⟩ := bnd_some hF
      refine g_callSI (pc1 := 129) (As := [.long (((μ.1 6) (μ.1 0 8).toNatClampNeg).toInt64), .long (97 : Int64), .long (122 : Int64)]) (rest := []) C 3 (c_M_in l (((μ.1 6) (μ.1 0 8).toNatClampNeg).toInt64) (97 : Int64) (122 : Int64) r1 hr1) s_M_in kw_173 rfl ⟨Nat.le_of_ble_eq_true rfl, Nat.le_of_ble_eq_true rfl⟩ ⟨rfl, rfl⟩ d_M_next_126 rfl rfl (Nat.le_of_ble_eq_true rfl) ?_
      refine g_if_eq (pc1 := 132) C 310 d_M_next_129 rfl (by decide) (fun c1 => ?_) (fun c1 => ?_)
      · replace hF := ite_t hF c1
        exact g_vret C hr hlk d_M_next_310 (congrArg (WM a cs) (Option.some.inj hF))
      · replace hF := ite_f hF c1
        refine g_aload_n (pc1 := 133) C d_M_next_132 rfl rfl 0 rfl ?_
        refine g_iload_n (pc1 := 134) C d_M_next_133 rfl rfl 1 rfl ?_
        refine g_iconst (pc1 := 135) (v := (5 : Int32)) C d_M_next_134 rfl ic_5 ?_
        refine g_icmp_ge (pc1 := 138) C 164 d_M_next_135 rfl (by decide) (fun c1 => ?_) (fun c1 => ?_)
        · replace hF := ite_t hF c1
          refine g_ldc2 (pc1 := 167) (v := (-1 : Int64)) C d_M_next_164 rfl kw_204 ?_
          exact g_sub [0, 1] rfl (p_M_next_167 C hK hr hlk K99 hK99 μ x1 (-1 : Int64) hF)
        · replace hF := ite_f hF c1
          refine g_ldc2 (pc1 := 141) (v := (27 : Int64)) C d_M_next_138 rfl kw_205 ?_
          refine g_aload_n (pc1 := 142) C d_M_next_141 rfl rfl 0 rfl ?_
          refine get_WM_0_value (pc1 := 145) C hK (v := (μ.2 11)) rfl kw_198 d_M_next_142 rfl ?_
          refine g_lmul (pc1 := 146) C d_M_next_145 rfl ?_
          refine g_aload_n (pc1 := 147) C d_M_next_146 rfl rfl 0 rfl ?_
          refine get_WM_0_text (pc1 := 150) C hK kw_193 d_M_next_147 rfl ?_
          refine g_aload_n (pc1 := 151) C d_M_next_150 rfl rfl 0 rfl ?_
          refine get_WM_0_at (pc1 := 154) C hK (v := (μ.1 0 8)) rfl kw_194 d_M_next_151 rfl ?_
          have hg := gd_some hF
          replace hF := hg.2
          refine g_iald (pc1 := 155) C hK 6 (f := (μ.1 6)) rfl hg.1 d_M_next_154 rfl ?_
          refine g_i2l (pc1 := 156) C d_M_next_155 rfl ?_
          refine g_ladd (pc1 := 157) C d_M_next_156 rfl ?_
          refine g_ldc2 (pc1 := 160) (v := (96 : Int64)) C d_M_next_157 rfl kw_206 ?_
          refine g_lsub (pc1 := 161) C d_M_next_160 rfl ?_
          refine g_goto C 167 d_M_next_161 (by decide) ?_
          exact g_sub [0, 1] rfl (p_M_next_167 C hK hr hlk K99 hK99 μ x1 ((((27 : Int64) * (μ.2 11)) + (((μ.1 6) (μ.1 0 8).toNatClampNeg).toInt64)) - (96 : Int64)) hF)
set_option maxHeartbeats 4000000 in
set_option maxRecDepth 100000 in
theorem p_M_next_38 {p : Program} {l : Launch} {e : Env} {s : State} {m : MethodId} {args : Array Value} {below : List Frame} {meth : Method} {c : Code} {D : va_G} {cs : Nat → ClassId} {a : Nat → Nat} {μ1 : Mem} (C : Cx p s m args c b_M_next 2 "TentPegsModel") (hK : va_K D classes (tys cs) s) (hr : meth.sig.returnType = none) (hlk : meth.locks = false)  (μ : Mem)  (hF : F_M_next_38  μ = some μ1) : G p l e { frames := 2, cells := 0, slots := 0, locals := 45 } s m args below meth c (MQ below (Qv (AM a) D (WM a cs μ1)) args s 0 0 (AM a)) D (AM a) 2 (WM a cs μ) 38 [(0, .ref (a 0))] [] := by
  unfold F_M_next_38 at hF
  refine g_aload_n (pc1 := 39) C d_M_next_38 rfl rfl 0 rfl ?_
  refine g_aload_n (pc1 := 40) C d_M_next_39 rfl rfl 0 rfl ?_
  refine get_WM_0_at (pc1 := 43) C hK (v := (μ.1 0 8)) rfl kw_194 d_M_next_40 rfl ?_
  refine put_WM_0_start (pc1 := 46) C hK kw_197 d_M_next_43 rfl ?_
  refine g_aload_n (pc1 := 47) C d_M_next_46 rfl rfl 0 rfl ?_
  refine g_lconst (pc1 := 48) (v := (0 : Int64)) C d_M_next_47 rfl lc_0 ?_
  refine put_WM_0_value (pc1 := 51) C hK kw_198 d_M_next_48 rfl ?_
  refine g_iconst (pc1 := 52) (v := (0 : Int32)) C d_M_next_51 rfl ic_0 ?_
  refine g_istore_n (pc1 := 53) (L1 := [(1, .int (0 : Int32)), (0, .ref (a 0))]) C d_M_next_52 rfl rfl (by decide) rfl ?_
  refine g_aload_n (pc1 := 54) C d_M_next_53 rfl rfl 1 rfl ?_
  refine get_WM_0_at (pc1 := 57) C hK (v := (μ.1 0 8)) rfl kw_194 d_M_next_54 rfl ?_
  refine g_aload_n (pc1 := 58) C d_M_next_57 rfl rfl 1 rfl ?_
  refine get_WM_0_size (pc1 := 61) C hK (v := (μ.1 0 7)) rfl kw_192 d_M_next_58 rfl ?_
  refine g_icmp_ne (pc1 := 64) C 72 d_M_next_61 rfl (by decide) (fun c1 => ?_) (fun c1 => ?_)
  · replace hF := ite_f hF c1
    refine g_aload_n (pc1 := 73) C d_M_next_72 rfl rfl 1 rfl ?_
    refine get_WM_0_text (pc1 := 76) C hK kw_193 d_M_next_73 rfl ?_
    refine g_aload_n (pc1 := 77) C d_M_next_76 rfl rfl 1 rfl ?_
    refine get_WM_0_at (pc1 := 80) C hK (v := (μ.1 0 8)) rfl kw_194 d_M_next_77 rfl ?_
    have hg := gd_some hF
    replace hF := hg.2
    refine g_iald (pc1 := 81) C hK 6 (f := (μ.1 6)) rfl hg.1 d_M_next_80 rfl ?_
    refine g_i2l (pc1 := 82) C d_M_next_81 rfl ?_
    refine g_ldc2 (pc1 := 85) (v := (97 : Int64)) C d_M_next_82 rfl kw_199 ?_
    refine g_ldc2 (pc1 := 88) (v := (122 : Int64)) C d_M_next_85 rfl kw_200 ?_
    obtain ⟨r1, hr1, hF⟩ := bnd_some hF
    refine g_callSI (pc1 := 91) (As := [.long (((μ.1 6) (μ.1 0 8).toNatClampNeg).toInt64), .long (97 : Int64), .long (122 : Int64)]) (rest := []) C 3 (c_M_in l (((μ.1 6) (μ.1 0 8).toNatClampNeg).toInt64) (97 : Int64) (122 : Int64) r1 hr1) s_M_in kw_173 rfl ⟨Nat.le_of_ble_eq_true rfl, Nat.le_of_ble_eq_true rfl⟩ ⟨rfl, rfl⟩ d_M_next_88 rfl rfl (Nat.le_of_ble_eq_true rfl) ?_
    refine g_if_eq (pc1 := 94) C 186 d_M_next_91 rfl (by decide) (fun c1 => ?_) (fun c1 => ?_)
    · replace hF := ite_t hF c1
      refine g_aload_n (pc1 := 187) C d_M_next_186 rfl rfl 1 rfl ?_
      obtain ⟨r2, hr2, hF⟩ := bnd_some hF
      refine g_callVI (pc1 := 190) (ws1 := WM a cs (stL (stI μ 0 9 (μ.1 0 8)) 11 (0 : Int64))) (As := []) (rest := []) (b := a 0) C hK 0 (c_M_isFigure l D cs a (stL (stI μ 0 9 (μ.1 0 8)) 11 (0 : Int64))  r2 hr2) s_M_isFigure kw_201 0 rfl rfl rfl ⟨Nat.le_of_ble_eq_true rfl, Nat.le_of_ble_eq_true rfl⟩ ⟨rfl, rfl⟩ d_M_next_187 rfl rfl (Nat.le_of_ble_eq_true rfl) ?_
      refine g_if_eq (pc1 := 193) C 277 d_M_next_190 rfl (by decide) (fun c1 => ?_) (fun c1 => ?_)
      · replace hF := ite_t hF c1
        refine g_aload_n (pc1 := 278) C d_M_next_277 rfl rfl 1 rfl ?_
        refine g_aload_n (pc1 := 279) C d_M_next_278 rfl rfl 1 rfl ?_
        refine get_WM_0_text (pc1 := 282) C hK kw_193 d_M_next_279 rfl ?_
        refine g_aload_n (pc1 := 283) C d_M_next_282 rfl rfl 1 rfl ?_
        refine get_WM_0_at (pc1 := 286) C hK (v := (μ.1 0 8)) rfl kw_194 d_M_next_283 rfl ?_
        have hg := gd_some hF
        replace hF := hg.2
        refine g_iald (pc1 := 287) C hK 6 (f := (μ.1 6)) rfl hg.1 d_M_next_286 rfl ?_
        refine g_bipush (pc1 := 289) (v := (59 : Int32)) C d_M_next_287 rfl bp_59 ?_
        refine g_icmp_ne (pc1 := 292) C 296 d_M_next_289 rfl (by decide) (fun c1 => ?_) (fun c1 => ?_)
        · replace hF := ite_f hF c1
          refine g_iconst (pc1 := 297) (v := (0 : Int32)) C d_M_next_296 rfl ic_0 ?_
          exact g_sub [1] rfl (p_M_next_297 C hK hr hlk  (stL (stI μ 0 9 (μ.1 0 8)) 11 (0 : Int64)) (0 : Int32) hF)
        · replace hF := ite_t hF c1
          refine g_iconst (pc1 := 293) (v := (4 : Int32)) C d_M_next_292 rfl ic_4 ?_
          refine g_goto C 297 d_M_next_293 (by decide) ?_
          exact g_sub [1] rfl (p_M_next_297 C hK hr hlk  (stL (stI μ 0 9 (μ.1 0 8)) 11 (0 : Int64)) (4 : Int32) hF)
      · replace hF := ite_f hF c1
        refine g_aload_n (pc1 := 194) C d_M_next_193 rfl rfl 1 rfl ?_
        refine g_iconst (pc1 := 195) (v := (3 : Int32)) C d_M_next_194 rfl ic_3 ?_
        refine put_WM_0_token (pc1 := 198) C hK kw_202 d_M_next_195 rfl ?_
        exact g_sub [1, 0] rfl (p_M_next_198 C hK hr hlk  (stI (stL (stI μ 0 9 (μ.1 0 8)) 11 (0 : Int64)) 0 10 (3 : Int32)) (0 : Int32) hF)
    · replace hF := ite_f hF c1
      refine g_aload_n (pc1 := 95) C d_M_next_94 rfl rfl 1 rfl ?_
      refine g_iconst (pc1 := 96) (v := (2 : Int32)) C d_M_next_95 rfl ic_2 ?_
      refine put_WM_0_token (pc1 := 99) C hK kw_202 d_M_next_96 rfl ?_
      exact g_sub [1, 0] rfl (p_M_next_99 C hK hr hlk  (stI (stL (stI μ 0 9 (μ.1 0 8)) 11 (0 : Int64)) 0 10 (2 : Int32)) (0 : Int32) hF)
  · replace hF := ite_t hF c1
    refine g_aload_n (pc1 := 65) C d_M_next_64 rfl rfl 1 rfl ?_
    refine g_iconst (pc1 := 66) (v := (1 : Int32)) C d_M_next_65 rfl ic_1 ?_
    refine put_WM_0_token (pc1 := 69) C hK kw_202 d_M_next_66 rfl ?_
    refine g_goto C 310 d_M_next_69 (by decide) ?_
    exact g_vret C hr hlk d_M_next_310 (congrArg (WM a cs) (Option.some.inj hF))
set_option maxHeartbeats 4000000 in
set_option maxRecDepth 100000 in
theorem p_M_next_0 {p : Program} {l : Launch} {e : Env} {s : State} {m : MethodId} {args : Array Value} {below : List Frame} {meth : Method} {c : Code} {D : va_G} {cs : Nat → ClassId} {a : Nat → Nat} {μ1 : Mem} (C : Cx p s m args c b_M_next 2 "TentPegsModel") (hK : va_K D classes (tys cs) s) (hr : meth.sig.returnType = none) (hlk : meth.locks = false)  : ∀ (μ : Mem) , F_M_next_0  μ = some μ1 → G p l e { frames := 2, cells := 0, slots := 0, locals := 45 } s m args below meth c (MQ below (Qv (AM a) D (WM a cs μ1)) args s 0 0 (AM a)) D (AM a) 2 (WM a cs μ) 0 [(0, .ref (a 0))] [] := by
  refine iter_ind (fun (K0 : Mem → Option Mem) => ∀ (μ : Mem) , K0 μ = some μ1 → G p l e { frames := 2, cells := 0, slots := 0, locals := 45 } s m args below meth c (MQ below (Qv (AM a) D (WM a cs μ1)) args s 0 0 (AM a)) D (AM a) 2 (WM a cs μ) 0 [(0, .ref (a 0))] []) ?_ ?_ NF
  · intro μ hF
    exact none_no hF
  · intro K0 hK0 μ hF
    unfold S_M_next_0 at hF
    refine g_aload_n (pc1 := 1) C d_M_next_0 rfl rfl 0 rfl ?_
    refine get_WM_0_at (pc1 := 4) C hK (v := (μ.1 0 8)) rfl kw_194 d_M_next_1 rfl ?_
    refine g_aload_n (pc1 := 5) C d_M_next_4 rfl rfl 0 rfl ?_
    refine get_WM_0_size (pc1 := 8) C hK (v := (μ.1 0 7)) rfl kw_192 d_M_next_5 rfl ?_
    refine g_icmp_ge (pc1 := 11) C 38 d_M_next_8 rfl (by decide) (fun c1 => ?_) (fun c1 => ?_)
    · replace hF := ite_t hF c1
      exact g_sub [0] rfl (p_M_next_38 C hK hr hlk  μ hF)
    · replace hF := ite_f hF c1
      refine g_aload_n (pc1 := 12) C d_M_next_11 rfl rfl 0 rfl ?_
      refine get_WM_0_text (pc1 := 15) C hK kw_193 d_M_next_12 rfl ?_
      refine g_aload_n (pc1 := 16) C d_M_next_15 rfl rfl 0 rfl ?_
      refine get_WM_0_at (pc1 := 19) C hK (v := (μ.1 0 8)) rfl kw_194 d_M_next_16 rfl ?_
      have hg := gd_some hF
      replace hF := hg.2
      refine g_iald (pc1 := 20) C hK 6 (f := (μ.1 6)) rfl hg.1 d_M_next_19 rfl ?_
      refine g_bipush (pc1 := 22) (v := (32 : Int32)) C d_M_next_20 rfl bp_32 ?_
      refine g_icmp_ne (pc1 := 25) C 38 d_M_next_22 rfl (by decide) (fun c1 => ?_) (fun c1 => ?_)
      · replace hF := ite_f hF c1
        exact g_sub [0] rfl (p_M_next_38 C hK hr hlk  μ hF)
      · replace hF := ite_t hF c1
        refine g_aload_n (pc1 := 26) C d_M_next_25 rfl rfl 0 rfl ?_
        refine g_dup (pc1 := 27) C d_M_next_26 rfl rfl ?_
        refine get_WM_0_at (pc1 := 30) C hK (v := (μ.1 0 8)) rfl kw_194 d_M_next_27 rfl ?_
        refine g_iconst (pc1 := 31) (v := (1 : Int32)) C d_M_next_30 rfl ic_1 ?_
        refine g_iadd (pc1 := 32) C d_M_next_31 rfl ?_
        refine put_WM_0_at (pc1 := 35) C hK kw_194 d_M_next_32 rfl ?_
        refine g_goto C 0 d_M_next_35 (by decide) ?_
        exact g_sub [0] rfl (hK0 (stI μ 0 8 ((μ.1 0 8) + (1 : Int32))) hF)
set_option maxHeartbeats 4000000 in
set_option maxRecDepth 100000 in
theorem c_M_next (l : Launch) (D : va_G) (cs : Nat → ClassId) (a : Nat → Nat) (μ : Mem)  (μ1 : Mem) (hF : F_M_next μ = some μ1) : MetV l y_M_next b_M_next 2 none { frames := 2, cells := 0, slots := 0, locals := 45 } D cs (AM a) (WM a cs μ) [.ref (a 0)] (WM a cs μ1) := by
  refine met_of rfl (by decide +kernel) (Nat.le_of_ble_eq_true rfl) (fun p e s m below meth c C hK hr hlk => ?_)
  unfold F_M_next at hF
  show G p l e { frames := 2, cells := 0, slots := 0, locals := 45 } s m _ below meth c _ D (AM a) 2 (WM a cs μ) 0 [(0, .ref (a 0))] []
  exact g_sub [0] rfl (p_M_next_0 C hK hr hlk  μ hF)
