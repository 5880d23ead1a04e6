-- TentPegs$Reader.spells(Ljava/lang/String;)Z
set_option maxHeartbeats 4000000 in
set_option maxRecDepth 100000 in
theorem p_R_spells_20 {p : Program} {l : Launch} {e : Env} {s : State} {m : MethodId} {args : Array Value} {below : List Frame} {meth : Method} {c : Code} {D : va_G} {cs : Nat → ClassId} {a : Nat → Nat} {adK adV : Nat → Nat} {μ : Mem} {r : Int32} (C : Cx p s m args c b_R_spells 3 "TentPegs$Reader") (hK : va_K D classes (tys cs) s) (hX : Sx adK adV (AC a) s s.heap) (hr : meth.sig.returnType = (some .boolean)) (hlk : meth.locks = false)  : ∀ (x1 : Nat) (x2 : Int32), F_R_spells_20  μ x1 x2 = some r → G p l e { frames := 4, cells := 0, slots := 0, locals := 85 } s m args below meth c (MQ below (Qi (AC a) D (WC a cs μ) r) args s 0 0 (AC a)) D (AC a) 3 (WC a cs μ) 20 [(0, .ref (a 14)), (1, .ref (adK x1)), (2, .int x2)] [] := by
  refine iter_ind (fun (K20 : Mem → Nat → Int32 → Option Int32) => ∀ (x1 : Nat) (x2 : Int32), K20 μ x1 x2 = some r → G p l e { frames := 4, cells := 0, slots := 0, locals := 85 } s m args below meth c (MQ below (Qi (AC a) D (WC a cs μ) r) args s 0 0 (AC a)) D (AC a) 3 (WC a cs μ) 20 [(0, .ref (a 14)), (1, .ref (adK x1)), (2, .int x2)] []) ?_ ?_ NF
  · intro x1 x2 hF
    exact none_no hF
  · intro K20 hK20 x1 x2 hF
    unfold S_R_spells_20 at hF
    refine g_iload_n (pc1 := 21) C d_R_spells_20 rfl rfl 2 rfl ?_
    refine g_aload_n (pc1 := 22) C d_R_spells_21 rfl rfl 1 rfl ?_
    have hg := gd_some hF
    replace hF := hg.2
    refine g_callStr (pc1 := 25) (As := []) (rest := [.int x2]) C hX (of_decide_eq_true hg.1) 0 (c_JS_length l adK adV x1 (of_decide_eq_true hg.1)) s_JS_length rfl kx_179 rfl ⟨Nat.le_of_ble_eq_true rfl, Nat.le_of_ble_eq_true rfl⟩ ⟨rfl, rfl⟩ d_R_spells_22 rfl rfl (Nat.le_of_ble_eq_true rfl) ?_
    refine g_icmp_ge (pc1 := 28) C 55 d_R_spells_25 rfl (by decide) (fun c1 => ?_) (fun c1 => ?_)
    · replace hF := ite_t hF c1
      refine g_iconst (pc1 := 56) (v := (1 : Int32)) C d_R_spells_55 rfl ic_1 ?_
      exact g_zret C hr hlk rfl d_R_spells_56 (Option.some.inj hF) rfl
    · replace hF := ite_f hF c1
      refine g_aload_n (pc1 := 29) C d_R_spells_28 rfl rfl 0 rfl ?_
      refine get_WC_14_text (pc1 := 32) C hK kw_269 d_R_spells_29 rfl ?_
      refine g_aload_n (pc1 := 33) C d_R_spells_32 rfl rfl 0 rfl ?_
      refine get_WC_14_start (pc1 := 36) C hK (v := (μ.1 14 5)) rfl kw_298 d_R_spells_33 rfl ?_
      refine g_iload_n (pc1 := 37) C d_R_spells_36 rfl rfl 2 rfl ?_
      refine g_iadd (pc1 := 38) C d_R_spells_37 rfl ?_
      have hg := gd_some hF
      replace hF := hg.2
      refine g_bald (pc1 := 39) C hK 13 (f := (μ.1 13)) rfl hg.1 d_R_spells_38 rfl ?_
      refine g_aload_n (pc1 := 40) C d_R_spells_39 rfl rfl 1 rfl ?_
      refine g_iload_n (pc1 := 41) C d_R_spells_40 rfl rfl 2 rfl ?_
      have hg := gd_some hF
      replace hF := hg.2
      have hg2 := gd_some hF
      replace hF := hg2.2
      refine g_callStr (pc1 := 44) (As := [.int x2]) (rest := [.int ((μ.1 13) ((μ.1 14 5) + x2).toNatClampNeg)]) C hX (of_decide_eq_true hg.1) 1 (c_JS_charAt l adK adV x1 (of_decide_eq_true hg.1) x2 hg2.1) s_JS_charAt rfl kx_184 rfl ⟨Nat.le_of_ble_eq_true rfl, Nat.le_of_ble_eq_true rfl⟩ ⟨rfl, rfl⟩ d_R_spells_41 rfl rfl (Nat.le_of_ble_eq_true rfl) ?_
      refine g_icmp_eq (pc1 := 47) C 49 d_R_spells_44 rfl (by decide) (fun c1 => ?_) (fun c1 => ?_)
      · replace hF := ite_t hF c1
        refine g_iinc (pc1 := 52) (v := (x2 + (1 : Int32))) (L1 := [(2, .int (x2 + (1 : Int32))), (0, .ref (a 14)), (1, .ref (adK x1))]) C d_R_spells_49 rfl 2 rfl (by rw [ic_1]) (by decide) rfl ?_
        refine g_goto C 20 d_R_spells_52 (by decide) ?_
        exact g_sub [1, 2, 0] rfl (hK20 x1 (x2 + (1 : Int32)) hF)
      · replace hF := ite_f hF c1
        refine g_iconst (pc1 := 48) (v := (0 : Int32)) C d_R_spells_47 rfl ic_0 ?_
        exact g_zret C hr hlk rfl d_R_spells_48 (Option.some.inj hF) rfl
set_option maxHeartbeats 4000000 in
set_option maxRecDepth 100000 in
theorem c_R_spells (l : Launch) (adK adV : Nat → Nat) (D : va_G) (cs : Nat → ClassId) (a : Nat → Nat) (μ : Mem) (x1 : Nat) (r : Int32) (hF : F_R_spells μ x1 = some r) : MtXI adK adV l y_R_spells b_R_spells 3 (some .boolean) { frames := 4, cells := 0, slots := 0, locals := 85 } D cs (AC a) (WC a cs μ) [.ref (a 14), .ref (adK x1)] r (WC a cs μ) := by
  refine met_ofX rfl (by decide +kernel) (Nat.le_of_ble_eq_true rfl) (fun p e s m below meth c C hK hX hr hlk => ?_)
  unfold F_R_spells at hF
  show G p l e { frames := 4, cells := 0, slots := 0, locals := 85 } s m _ below meth c _ D (AC a) 3 (WC a cs μ) 0 [(0, .ref (a 14)), (1, .ref (adK x1))] []
  refine g_aload_n (pc1 := 1) C d_R_spells_0 rfl rfl 1 rfl ?_
  have hg := gd_some hF
  replace hF := hg.2
  refine g_callStr (pc1 := 4) (As := []) (rest := []) C hX (of_decide_eq_true hg.1) 0 (c_JS_length l adK adV x1 (of_decide_eq_true hg.1)) s_JS_length rfl kx_179 rfl ⟨Nat.le_of_ble_eq_true rfl, Nat.le_of_ble_eq_true rfl⟩ ⟨rfl, rfl⟩ d_R_spells_1 rfl rfl (Nat.le_of_ble_eq_true rfl) ?_
  refine g_aload_n (pc1 := 5) C d_R_spells_4 rfl rfl 0 rfl ?_
  refine get_WC_14_at (pc1 := 8) C hK (v := (μ.1 14 4)) rfl kw_272 d_R_spells_5 rfl ?_
  refine g_aload_n (pc1 := 9) C d_R_spells_8 rfl rfl 0 rfl ?_
  refine get_WC_14_start (pc1 := 12) C hK (v := (μ.1 14 5)) rfl kw_298 d_R_spells_9 rfl ?_
  refine g_isub (pc1 := 13) C d_R_spells_12 rfl ?_
  refine g_icmp_eq (pc1 := 16) C 18 d_R_spells_13 rfl (by decide) (fun c1 => ?_) (fun c1 => ?_)
  · replace hF := ite_t hF c1
    refine g_iconst (pc1 := 19) (v := (0 : Int32)) C d_R_spells_18 rfl ic_0 ?_
    refine g_istore_n (pc1 := 20) (L1 := [(2, .int (0 : Int32)), (0, .ref (a 14)), (1, .ref (adK x1))]) C d_R_spells_19 rfl rfl (by decide) rfl ?_
    exact g_sub [1, 2, 0] rfl (p_R_spells_20 C hK hX hr hlk  x1 (0 : Int32) hF)
  · replace hF := ite_f hF c1
    refine g_iconst (pc1 := 17) (v := (0 : Int32)) C d_R_spells_16 rfl ic_0 ?_
    exact g_zret C hr hlk rfl d_R_spells_17 (Option.some.inj hF) rfl
-- TentPegs$Reader.stepOverWord()V
set_option maxHeartbeats 4000000 in
set_option maxRecDepth 100000 in
theorem p_R_stepOverWord_39 {p : Program} {l : Launch} {e : Env} {s : State} {m : MethodId} {args : Array Value} {below : List Frame} {meth : Method} {c : Code} {D : va_G} {cs : Nat → ClassId} {a : Nat → Nat} {adK adV : Nat → Nat} {μ1 : Mem} (C : Cx p s m args c b_R_stepOverWord 1 "TentPegs$Reader") (hK : va_K D classes (tys cs) s) (hX : Sx adK adV (AC a) s s.heap) (hr : meth.sig.returnType = none) (hlk : meth.locks = false)  (μ : Mem)  (hF : F_R_stepOverWord_39  μ = some μ1) : G p l e { frames := 5, cells := 0, slots := 0, locals := 107 } s m args below meth c (MQ below (Qv (AC a) D (WC a cs μ1)) args s 0 0 (AC a)) D (AC a) 1 (WC a cs μ) 39 [(0, .ref (a 14))] [] := by
  unfold F_R_stepOverWord_39 at hF
  refine g_aload_n (pc1 := 40) C d_R_stepOverWord_39 rfl rfl 0 rfl ?_
  refine g_aload_n (pc1 := 41) C d_R_stepOverWord_40 rfl rfl 0 rfl ?_
  refine g_ldcS (pc1 := 43) (q := adK 0) C (hX.2.2.2 0 (by decide)) d_R_stepOverWord_41 rfl ?_
  obtain ⟨r1, hr1, hF⟩ := bnd_some hF
  refine g_callXI (pc1 := 46) (ws1 := WC a cs μ) (As := [.ref (adK 0)]) (rest := [.ref (a 14)]) (b := a 14) C hK hX 1 (c_R_spells l adK adV D cs a μ 0 r1 hr1) s_R_spells kw_301 14 rfl rfl rfl ⟨Nat.le_of_ble_eq_true rfl, Nat.le_of_ble_eq_true rfl⟩ ⟨rfl, rfl⟩ d_R_stepOverWord_43 rfl rfl (Nat.le_of_ble_eq_true rfl) ?_
  refine g_if_eq (pc1 := 49) C 53 d_R_stepOverWord_46 rfl (by decide) (fun c1 => ?_) (fun c1 => ?_)
  · replace hF := ite_t hF c1
    refine g_aload_n (pc1 := 54) C d_R_stepOverWord_53 rfl rfl 0 rfl ?_
    refine g_ldcS (pc1 := 56) (q := adK 1) C (hX.2.2.2 1 (by decide)) d_R_stepOverWord_54 rfl ?_
    obtain ⟨r2, hr2, hF⟩ := bnd_some hF
    refine g_callXI (pc1 := 59) (ws1 := WC a cs μ) (As := [.ref (adK 1)]) (rest := [.ref (a 14)]) (b := a 14) C hK hX 1 (c_R_spells l adK adV D cs a μ 1 r2 hr2) s_R_spells kw_301 14 rfl rfl rfl ⟨Nat.le_of_ble_eq_true rfl, Nat.le_of_ble_eq_true rfl⟩ ⟨rfl, rfl⟩ d_R_stepOverWord_56 rfl rfl (Nat.le_of_ble_eq_true rfl) ?_
    refine g_if_eq (pc1 := 62) C 66 d_R_stepOverWord_59 rfl (by decide) (fun c1 => ?_) (fun c1 => ?_)
    · replace hF := ite_t hF c1
      refine g_aload_n (pc1 := 67) C d_R_stepOverWord_66 rfl rfl 0 rfl ?_
      refine g_ldcS (pc1 := 69) (q := adK 2) C (hX.2.2.2 2 (by decide)) d_R_stepOverWord_67 rfl ?_
      obtain ⟨r3, hr3, hF⟩ := bnd_some hF
      refine g_callXI (pc1 := 72) (ws1 := WC a cs μ) (As := [.ref (adK 2)]) (rest := [.ref (a 14)]) (b := a 14) C hK hX 1 (c_R_spells l adK adV D cs a μ 2 r3 hr3) s_R_spells kw_301 14 rfl rfl rfl ⟨Nat.le_of_ble_eq_true rfl, Nat.le_of_ble_eq_true rfl⟩ ⟨rfl, rfl⟩ d_R_stepOverWord_69 rfl rfl (Nat.le_of_ble_eq_true rfl) ?_
      refine g_if_eq (pc1 := 75) C 80 d_R_stepOverWord_72 rfl (by decide) (fun c1 => ?_) (fun c1 => ?_)
      · replace hF := ite_t hF c1
        refine g_aload_n (pc1 := 81) C d_R_stepOverWord_80 rfl rfl 0 rfl ?_
        refine g_ldcS (pc1 := 83) (q := adK 3) C (hX.2.2.2 3 (by decide)) d_R_stepOverWord_81 rfl ?_
        obtain ⟨r4, hr4, hF⟩ := bnd_some hF
        refine g_callXI (pc1 := 86) (ws1 := WC a cs μ) (As := [.ref (adK 3)]) (rest := [.ref (a 14)]) (b := a 14) C hK hX 1 (c_R_spells l adK adV D cs a μ 3 r4 hr4) s_R_spells kw_301 14 rfl rfl rfl ⟨Nat.le_of_ble_eq_true rfl, Nat.le_of_ble_eq_true rfl⟩ ⟨rfl, rfl⟩ d_R_stepOverWord_83 rfl rfl (Nat.le_of_ble_eq_true rfl) ?_
        refine g_if_eq (pc1 := 89) C 94 d_R_stepOverWord_86 rfl (by decide) (fun c1 => ?_) (fun c1 => ?_)
        · replace hF := ite_t hF c1
          refine g_aload_n (pc1 := 95) C d_R_stepOverWord_94 rfl rfl 0 rfl ?_
          refine g_ldcS (pc1 := 97) (q := adK 4) C (hX.2.2.2 4 (by decide)) d_R_stepOverWord_95 rfl ?_
          obtain ⟨r5, hr5, hF⟩ := bnd_some hF
          refine g_callXI (pc1 := 100) (ws1 := WC a cs μ) (As := [.ref (adK 4)]) (rest := [.ref (a 14)]) (b := a 14) C hK hX 1 (c_R_spells l adK adV D cs a μ 4 r5 hr5) s_R_spells kw_301 14 rfl rfl rfl ⟨Nat.le_of_ble_eq_true rfl, Nat.le_of_ble_eq_true rfl⟩ ⟨rfl, rfl⟩ d_R_stepOverWord_97 rfl rfl (Nat.le_of_ble_eq_true rfl) ?_
          refine g_if_eq (pc1 := 103) C 108 d_R_stepOverWord_100 rfl (by decide) (fun c1 => ?_) (fun c1 => ?_)
          · replace hF := ite_t hF c1
            refine g_aload_n (pc1 := 109) C d_R_stepOverWord_108 rfl rfl 0 rfl ?_
            refine g_ldcS (pc1 := 111) (q := adK 5) C (hX.2.2.2 5 (by decide)) d_R_stepOverWord_109 rfl ?_
            obtain ⟨r6, hr6, hF⟩ := bnd_some hF
            refine g_callXI (pc1 := 114) (ws1 := WC a cs μ) (As := [.ref (adK 5)]) (rest := [.ref (a 14)]) (b := a 14) C hK hX 1 (c_R_spells l adK adV D cs a μ 5 r6 hr6) s_R_spells kw_301 14 rfl rfl rfl ⟨Nat.le_of_ble_eq_true rfl, Nat.le_of_ble_eq_true rfl⟩ ⟨rfl, rfl⟩ d_R_stepOverWord_111 rfl rfl (Nat.le_of_ble_eq_true rfl) ?_
            refine g_if_eq (pc1 := 117) C 122 d_R_stepOverWord_114 rfl (by decide) (fun c1 => ?_) (fun c1 => ?_)
            · replace hF := ite_t hF c1
              refine g_iconst (pc1 := 123) (v := (0 : Int32)) C d_R_stepOverWord_122 rfl ic_0 ?_
              refine put_WC_14_token (pc1 := 126) C hK kw_299 d_R_stepOverWord_123 rfl ?_
              exact g_vret C hr hlk d_R_stepOverWord_126 (congrArg (WC a cs) (Option.some.inj hF))
            · replace hF := ite_f hF c1
              refine g_bipush (pc1 := 119) (v := (9 : Int32)) C d_R_stepOverWord_117 rfl bp_9 ?_
              refine g_goto C 123 d_R_stepOverWord_119 (by decide) ?_
              refine put_WC_14_token (pc1 := 126) C hK kw_299 d_R_stepOverWord_123 rfl ?_
              exact g_vret C hr hlk d_R_stepOverWord_126 (congrArg (WC a cs) (Option.some.inj hF))
          · replace hF := ite_f hF c1
            refine g_bipush (pc1 := 105) (v := (8 : Int32)) C d_R_stepOverWord_103 rfl bp_8 ?_
            refine g_goto C 123 d_R_stepOverWord_105 (by decide) ?_
            refine put_WC_14_token (pc1 := 126) C hK kw_299 d_R_stepOverWord_123 rfl ?_
            exact g_vret C hr hlk d_R_stepOverWord_126 (congrArg (WC a cs) (Option.some.inj hF))
        · replace hF := ite_f hF c1
          refine g_bipush (pc1 := 91) (v := (7 : Int32)) C d_R_stepOverWord_89 rfl bp_7 ?_
          refine g_goto C 123 d_R_stepOverWord_91 (by decide) ?_
          refine put_WC_14_token (pc1 := 126) C hK kw_299 d_R_stepOverWord_123 rfl ?_
          exact g_vret C hr hlk d_R_stepOverWord_126 (congrArg (WC a cs) (Option.some.inj hF))
      · replace hF := ite_f hF c1
        refine g_bipush (pc1 := 77) (v := (6 : Int32)) C d_R_stepOverWord_75 rfl bp_6 ?_
        refine g_goto C 123 d_R_stepOverWord_77 (by decide) ?_
        refine put_WC_14_token (pc1 := 126) C hK kw_299 d_R_stepOverWord_123 rfl ?_
        exact g_vret C hr hlk d_R_stepOverWord_126 (congrArg (WC a cs) (Option.some.inj hF))
    · replace hF := ite_f hF c1
      refine g_iconst (pc1 := 63) (v := (5 : Int32)) C d_R_stepOverWord_62 rfl ic_5 ?_
      refine g_goto C 123 d_R_stepOverWord_63 (by decide) ?_
      refine put_WC_14_token (pc1 := 126) C hK kw_299 d_R_stepOverWord_123 rfl ?_
      exact g_vret C hr hlk d_R_stepOverWord_126 (congrArg (WC a cs) (Option.some.inj hF))
  · replace hF := ite_f hF c1
    refine g_iconst (pc1 := 50) (v := (4 : Int32)) C d_R_stepOverWord_49 rfl ic_4 ?_
    refine g_goto C 123 d_R_stepOverWord_50 (by decide) ?_
    refine put_WC_14_token (pc1 := 126) C hK kw_299 d_R_stepOverWord_123 rfl ?_
    exact g_vret C hr hlk d_R_stepOverWord_126 (congrArg (WC a cs) (Option.some.inj hF))
set_option maxHeartbeats 4000000 in
set_option maxRecDepth 100000 in
theorem p_R_stepOverWord_0 {p : Program} {l : Launch} {e : Env} {s : State} {m : MethodId} {args : Array Value} {below : List Frame} {meth : Method} {c : Code} {D : va_G} {cs : Nat → ClassId} {a : Nat → Nat} {adK adV : Nat → Nat} {μ1 : Mem} (C : Cx p s m args c b_R_stepOverWord 1 "TentPegs$Reader") (hK : va_K D classes (tys cs) s) (hX : Sx adK adV (AC a) s s.heap) (hr : meth.sig.returnType = none) (hlk : meth.locks = false)  : ∀ (μ : Mem) , F_R_stepOverWord_0  μ = some μ1 → G p l e { frames := 5, cells := 0, slots := 0, locals := 107 } s m args below meth c (MQ below (Qv (AC a) D (WC a cs μ1)) args s 0 0 (AC a)) D (AC a) 1 (WC a cs μ) 0 [(0, .ref (a 14))] [] := by
  refine iter_ind (fun (K0 : Mem → Option Mem) => ∀ (μ : Mem) , K0 μ = some μ1 → G p l e { frames := 5, cells := 0, slots := 0, locals := 107 } s m args below meth c (MQ below (Qv (AC a) D (WC a cs μ1)) args s 0 0 (AC a)) D (AC a) 1 (WC a cs μ) 0 [(0, .ref (a 14))] []) ?_ ?_ NF
  · intro μ hF
    exact none_no hF
  · intro K0 hK0 μ hF
    unfold S_R_stepOverWord_0 at hF
    refine g_aload_n (pc1 := 1) C d_R_stepOverWord_0 rfl rfl 0 rfl ?_
    refine get_WC_14_at (pc1 := 4) C hK (v := (μ.1 14 4)) rfl kw_272 d_R_stepOverWord_1 rfl ?_
    refine g_aload_n (pc1 := 5) C d_R_stepOverWord_4 rfl rfl 0 rfl ?_
    refine get_WC_14_length (pc1 := 8) C hK (v := (μ.1 14 3)) rfl kw_271 d_R_stepOverWord_5 rfl ?_
    refine g_icmp_ge (pc1 := 11) C 39 d_R_stepOverWord_8 rfl (by decide) (fun c1 => ?_) (fun c1 => ?_)
    · replace hF := ite_t hF c1
      exact g_sub [0] rfl (p_R_stepOverWord_39 C hK hX hr hlk  μ hF)
    · replace hF := ite_f hF c1
      refine g_aload_n (pc1 := 12) C d_R_stepOverWord_11 rfl rfl 0 rfl ?_
      refine get_WC_14_text (pc1 := 15) C hK kw_269 d_R_stepOverWord_12 rfl ?_
      refine g_aload_n (pc1 := 16) C d_R_stepOverWord_15 rfl rfl 0 rfl ?_
      refine get_WC_14_at (pc1 := 19) C hK (v := (μ.1 14 4)) rfl kw_272 d_R_stepOverWord_16 rfl ?_
      have hg := gd_some hF
      replace hF := hg.2
      refine g_bald (pc1 := 20) C hK 13 (f := (μ.1 13)) rfl hg.1 d_R_stepOverWord_19 rfl ?_
      obtain ⟨r1, hr1, hF⟩ := bnd_some hF
      refine g_callSI (pc1 := 23) (As := [.int ((μ.1 13) (μ.1 14 4).toNatClampNeg)]) (rest := []) C 1 (c_R_isLetter l ((μ.1 13) (μ.1 14 4).toNatClampNeg) r1 hr1) s_R_isLetter kw_300 rfl ⟨Nat.le_of_ble_eq_true rfl, Nat.le_of_ble_eq_true rfl⟩ ⟨rfl, rfl⟩ d_R_stepOverWord_20 rfl rfl (Nat.le_of_ble_eq_true rfl) ?_
      refine g_if_eq (pc1 := 26) C 39 d_R_stepOverWord_23 rfl (by decide) (fun c1 => ?_) (fun c1 => ?_)
      · replace hF := ite_t hF c1
        exact g_sub [0] rfl (p_R_stepOverWord_39 C hK hX hr hlk  μ hF)
      · replace hF := ite_f hF c1
        refine g_aload_n (pc1 := 27) C d_R_stepOverWord_26 rfl rfl 0 rfl ?_
        refine g_dup (pc1 := 28) C d_R_stepOverWord_27 rfl rfl ?_
        refine get_WC_14_at (pc1 := 31) C hK (v := (μ.1 14 4)) rfl kw_272 d_R_stepOverWord_28 rfl ?_
        refine g_iconst (pc1 := 32) (v := (1 : Int32)) C d_R_stepOverWord_31 rfl ic_1 ?_
        refine g_iadd (pc1 := 33) C d_R_stepOverWord_32 rfl ?_
        refine put_WC_14_at (pc1 := 36) C hK kw_272 d_R_stepOverWord_33 rfl ?_
        refine g_goto C 0 d_R_stepOverWord_36 (by decide) ?_
        exact g_sub [0] rfl (hK0 (stI μ 14 4 ((μ.1 14 4) + (1 : Int32))) hF)
set_option maxHeartbeats 4000000 in
set_option maxRecDepth 100000 in
theorem c_R_stepOverWord (l : Launch) (adK adV : Nat → Nat) (D : va_G) (cs : Nat → ClassId) (a : Nat → Nat) (μ : Mem)  (μ1 : Mem) (hF : F_R_stepOverWord μ = some μ1) : MtXV adK adV l y_R_stepOverWord b_R_stepOverWord 1 none { frames := 5, cells := 0, slots := 0, locals := 107 } D cs (AC a) (WC a cs μ) [.ref (a 14)] (WC a cs μ1) := by
  refine met_ofX rfl (by decide +kernel) (Nat.le_of_ble_eq_true rfl) (fun p e s m below meth c C hK hX hr hlk => ?_)
  unfold F_R_stepOverWord at hF
  show G p l e { frames := 5, cells := 0, slots := 0, locals := 107 } s m _ below meth c _ D (AC a) 1 (WC a cs μ) 0 [(0, .ref (a 14))] []
  exact g_sub [0] rfl (p_R_stepOverWord_0 C hK hX hr hlk  μ hF)
-- TentPegs$Reader.step()V
set_option maxHeartbeats 4000000 in
set_option maxRecDepth 100000 in
theorem p_R_step_95 {p : Program} {l : Launch} {e : Env} {s : State} {m : MethodId} {args : Array Value} {below : List Frame} {meth : Method} {c : Code} {D : va_G} {cs : Nat → ClassId} {a : Nat → Nat} {adK adV : Nat → Nat} {μ1 : Mem} (C : Cx p s m args c b_R_step 1 "TentPegs$Reader") (hK : va_K D classes (tys cs) s) (hX : Sx adK adV (AC a) s s.heap) (hr : meth.sig.returnType = none) (hlk : meth.locks = false)  (μ : Mem) (s0 : Int32) (hF : F_R_step_95  μ s0 = some μ1) : G p l e { frames := 6, cells := 0, slots := 0, locals := 127 } s m args below meth c (MQ below (Qv (AC a) D (WC a cs μ1)) args s 0 0 (AC a)) D (AC a) 1 (WC a cs μ) 95 [(0, .ref (a 14))] [.int s0, .ref (a 14)] := by
  unfold F_R_step_95 at hF
  refine put_WC_14_token (pc1 := 98) C hK kw_299 d_R_step_95 rfl ?_
  refine g_aload_n (pc1 := 99) C d_R_step_98 rfl rfl 0 rfl ?_
  refine g_dup (pc1 := 100) C d_R_step_99 rfl rfl ?_
  refine get_WC_14_at (pc1 := 103) C hK (v := (μ.1 14 4)) rfl kw_272 d_R_step_100 rfl ?_
  refine g_iconst (pc1 := 104) (v := (1 : Int32)) C d_R_step_103 rfl ic_1 ?_
  refine g_iadd (pc1 := 105) C d_R_step_104 rfl ?_
  refine put_WC_14_at (pc1 := 108) C hK kw_272 d_R_step_105 rfl ?_
  exact g_vret C hr hlk d_R_step_108 (congrArg (WC a cs) (Option.some.inj hF))
set_option maxHeartbeats 4000000 in
set_option maxRecDepth 100000 in
theorem c_R_step (l : Launch) (adK adV : Nat → Nat) (D : va_G) (cs : Nat → ClassId) (a : Nat → Nat) (μ : Mem)  (μ1 : Mem) (hF : F_R_step μ = some μ1) : MtXV adK adV l y_R_step b_R_step 1 none { frames := 6, cells := 0, slots := 0, locals := 127 } D cs (AC a) (WC a cs μ) [.ref (a 14)] (WC a cs μ1) := by
  refine met_ofX rfl (by decide +kernel) (Nat.le_of_ble_eq_true rfl) (fun p e s m below meth c C hK hX hr hlk => ?_)
  unfold F_R_step at hF
  show G p l e { frames := 6, cells := 0, slots := 0, locals := 127 } s m _ below meth c _ D (AC a) 1 (WC a cs μ) 0 [(0, .ref (a 14))] []
  refine g_aload_n (pc1 := 1) C d_R_step_0 rfl rfl 0 rfl ?_
  obtain ⟨m1, hm1, hF⟩ := bnd_some hF
  refine g_callVV (pc1 := 4) (ws1 := WC a cs m1) (As := []) (rest := []) (b := a 14) C hK 0 (c_R_skipBlanks l D cs a μ  m1 hm1) s_R_skipBlanks kw_302 14 rfl rfl rfl ⟨Nat.le_of_ble_eq_true rfl, Nat.le_of_ble_eq_true rfl⟩ ⟨rfl, rfl⟩ d_R_step_1 rfl rfl (Nat.le_of_ble_eq_true rfl) ?_
  refine g_aload_n (pc1 := 5) C d_R_step_4 rfl rfl 0 rfl ?_
  refine g_aload_n (pc1 := 6) C d_R_step_5 rfl rfl 0 rfl ?_
  refine get_WC_14_at (pc1 := 9) C hK (v := (m1.1 14 4)) rfl kw_272 d_R_step_6 rfl ?_
  refine put_WC_14_start (pc1 := 12) C hK kw_298 d_R_step_9 rfl ?_
  refine g_aload_n (pc1 := 13) C d_R_step_12 rfl rfl 0 rfl ?_
  refine get_WC_14_at (pc1 := 16) C hK (v := (m1.1 14 4)) rfl kw_272 d_R_step_13 rfl ?_
  refine g_aload_n (pc1 := 17) C d_R_step_16 rfl rfl 0 rfl ?_
  refine get_WC_14_length (pc1 := 20) C hK (v := (m1.1 14 3)) rfl kw_271 d_R_step_17 rfl ?_
  refine g_icmp_lt (pc1 := 23) C 31 d_R_step_20 rfl (by decide) (fun c1 => ?_) (fun c1 => ?_)
  · replace hF := ite_t hF c1
    refine g_aload_n (pc1 := 32) C d_R_step_31 rfl rfl 0 rfl ?_
    refine get_WC_14_text (pc1 := 35) C hK kw_269 d_R_step_32 rfl ?_
    refine g_aload_n (pc1 := 36) C d_R_step_35 rfl rfl 0 rfl ?_
    refine get_WC_14_at (pc1 := 39) C hK (v := (m1.1 14 4)) rfl kw_272 d_R_step_36 rfl ?_
    have hg := gd_some hF
    replace hF := hg.2
    refine g_bald (pc1 := 40) C hK 13 (f := (m1.1 13)) rfl hg.1 d_R_step_39 rfl ?_
    obtain ⟨r2, hr2, hF⟩ := bnd_some hF
    refine g_callSI (pc1 := 43) (As := [.int ((m1.1 13) (m1.1 14 4).toNatClampNeg)]) (rest := []) C 1 (c_R_isLetter l ((m1.1 13) (m1.1 14 4).toNatClampNeg) r2 hr2) s_R_isLetter kw_300 rfl ⟨Nat.le_of_ble_eq_true rfl, Nat.le_of_ble_eq_true rfl⟩ ⟨rfl, rfl⟩ d_R_step_40 rfl rfl (Nat.le_of_ble_eq_true rfl) ?_
    refine g_if_eq (pc1 := 46) C 53 d_R_step_43 rfl (by decide) (fun c1 => ?_) (fun c1 => ?_)
    · replace hF := ite_t hF c1
      refine g_aload_n (pc1 := 54) C d_R_step_53 rfl rfl 0 rfl ?_
      refine get_WC_14_text (pc1 := 57) C hK kw_269 d_R_step_54 rfl ?_
      refine g_aload_n (pc1 := 58) C d_R_step_57 rfl rfl 0 rfl ?_
      refine get_WC_14_at (pc1 := 61) C hK (v := (m1.1 14 4)) rfl kw_272 d_R_step_58 rfl ?_
      have hg := gd_some hF
      replace hF := hg.2
      refine g_bald (pc1 := 62) C hK 13 (f := (m1.1 13)) rfl hg.1 d_R_step_61 rfl ?_
      obtain ⟨r3, hr3, hF⟩ := bnd_some hF
      refine g_callSI (pc1 := 65) (As := [.int ((m1.1 13) (m1.1 14 4).toNatClampNeg)]) (rest := []) C 1 (c_R_isFigure l ((m1.1 13) (m1.1 14 4).toNatClampNeg) r3 hr3) s_R_isFigure kw_297 rfl ⟨Nat.le_of_ble_eq_true rfl, Nat.le_of_ble_eq_true rfl⟩ ⟨rfl, rfl⟩ d_R_step_62 rfl rfl (Nat.le_of_ble_eq_true rfl) ?_
      refine g_if_eq (pc1 := 68) C 75 d_R_step_65 rfl (by decide) (fun c1 => ?_) (fun c1 => ?_)
      · replace hF := ite_t hF c1
        refine g_aload_n (pc1 := 76) C d_R_step_75 rfl rfl 0 rfl ?_
        refine g_aload_n (pc1 := 77) C d_R_step_76 rfl rfl 0 rfl ?_
        refine get_WC_14_text (pc1 := 80) C hK kw_269 d_R_step_77 rfl ?_
        refine g_aload_n (pc1 := 81) C d_R_step_80 rfl rfl 0 rfl ?_
        refine get_WC_14_at (pc1 := 84) C hK (v := (m1.1 14 4)) rfl kw_272 d_R_step_81 rfl ?_
        have hg := gd_some hF
        replace hF := hg.2
        refine g_bald (pc1 := 85) C hK 13 (f := (m1.1 13)) rfl hg.1 d_R_step_84 rfl ?_
        refine g_bipush (pc1 := 87) (v := (59 : Int32)) C d_R_step_85 rfl bp_59 ?_
        refine g_icmp_ne (pc1 := 90) C 94 d_R_step_87 rfl (by decide) (fun c1 => ?_) (fun c1 => ?_)
        · replace hF := ite_f hF c1
          refine g_iconst (pc1 := 95) (v := (0 : Int32)) C d_R_step_94 rfl ic_0 ?_
          exact g_sub [0] rfl (p_R_step_95 C hK hX hr hlk  (stI m1 14 5 (m1.1 14 4)) (0 : Int32) hF)
        · replace hF := ite_t hF c1
          refine g_iconst (pc1 := 91) (v := (3 : Int32)) C d_R_step_90 rfl ic_3 ?_
          refine g_goto C 95 d_R_step_91 (by decide) ?_
          exact g_sub [0] rfl (p_R_step_95 C hK hX hr hlk  (stI m1 14 5 (m1.1 14 4)) (3 : Int32) hF)
      · replace hF := ite_f hF c1
        refine g_aload_n (pc1 := 69) C d_R_step_68 rfl rfl 0 rfl ?_
        obtain ⟨m4, hm4, hF⟩ := bnd_some hF
        refine g_callVV (pc1 := 72) (ws1 := WC a cs m4) (As := []) (rest := []) (b := a 14) C hK 0 (c_R_stepOverNumber l D cs a (stI m1 14 5 (m1.1 14 4))  m4 hm4) s_R_stepOverNumber kw_303 14 rfl rfl rfl ⟨Nat.le_of_ble_eq_true rfl, Nat.le_of_ble_eq_true rfl⟩ ⟨rfl, rfl⟩ d_R_step_69 rfl rfl (Nat.le_of_ble_eq_true rfl) ?_
        refine g_goto C 108 d_R_step_72 (by decide) ?_
        exact g_vret C hr hlk d_R_step_108 (congrArg (WC a cs) (Option.some.inj hF))
    · replace hF := ite_f hF c1
      refine g_aload_n (pc1 := 47) C d_R_step_46 rfl rfl 0 rfl ?_
      obtain ⟨m5, hm5, hF⟩ := bnd_some hF
      refine g_callXV (pc1 := 50) (ws1 := WC a cs m5) (As := []) (rest := []) (b := a 14) C hK hX 0 (c_R_stepOverWord l adK adV D cs a (stI m1 14 5 (m1.1 14 4))  m5 hm5) s_R_stepOverWord kw_304 14 rfl rfl rfl ⟨Nat.le_of_ble_eq_true rfl, Nat.le_of_ble_eq_true rfl⟩ ⟨rfl, rfl⟩ d_R_step_47 rfl rfl (Nat.le_of_ble_eq_true rfl) ?_
      refine g_goto C 108 d_R_step_50 (by decide) ?_
      exact g_vret C hr hlk d_R_step_108 (congrArg (WC a cs) (Option.some.inj hF))
  · replace hF := ite_f hF c1
    refine g_aload_n (pc1 := 24) C d_R_step_23 rfl rfl 0 rfl ?_
    refine g_iconst (pc1 := 25) (v := (1 : Int32)) C d_R_step_24 rfl ic_1 ?_
    refine put_WC_14_token (pc1 := 28) C hK kw_299 d_R_step_25 rfl ?_
    refine g_goto C 108 d_R_step_28 (by decide) ?_
    exact g_vret C hr hlk d_R_step_108 (congrArg (WC a cs) (Option.some.inj hF))
-- TentPegs$Reader.isItem(I)Z
set_option maxHeartbeats 4000000 in
set_option maxRecDepth 100000 in
theorem p_R_isItem_39 {p : Program} {l : Launch} {e : Env} {s : State} {m : MethodId} {args : Array Value} {below : List Frame} {meth : Method} {c : Code} {D : va_G} {cs : Nat → ClassId} {a : Nat → Nat} {adK adV : Nat → Nat} {r : Int32} {μ1 : Mem} (C : Cx p s m args c b_R_isItem 4 "TentPegs$Reader") (hK : va_K D classes (tys cs) s) (hX : Sx adK adV (AC a) s s.heap) (hr : meth.sig.returnType = (some .boolean)) (hlk : meth.locks = false)  : ∀ (μ : Mem) (x1 : Int32) (x3 : Int32), F_R_isItem_39  μ x1 x3 = some (r, μ1) → G p l e { frames := 7, cells := 0, slots := 0, locals := 147 } s m args below meth c (MQ below (Qi (AC a) D (WC a cs μ1) r) args s 0 0 (AC a)) D (AC a) 4 (WC a cs μ) 39 [(0, .ref (a 14)), (1, .int x1), (3, .int x3)] [] := by
  refine iter_ind (fun (K39 : Mem → Int32 → Int32 → Option (Int32 × Mem)) => ∀ (μ : Mem) (x1 : Int32) (x3 : Int32), K39 μ x1 x3 = some (r, μ1) → G p l e { frames := 7, cells := 0, slots := 0, locals := 147 } s m args below meth c (MQ below (Qi (AC a) D (WC a cs μ1) r) args s 0 0 (AC a)) D (AC a) 4 (WC a cs μ) 39 [(0, .ref (a 14)), (1, .int x1), (3, .int x3)] []) ?_ ?_ NF
  · intro μ x1 x3 hF
    exact none_no hF
  · intro K39 hK39 μ x1 x3 hF
    unfold S_R_isItem_39 at hF
    refine g_iload_n (pc1 := 40) C d_R_isItem_39 rfl rfl 2 rfl ?_
    refine g_iload_n (pc1 := 41) C d_R_isItem_40 rfl rfl 1 rfl ?_
    obtain ⟨r1, hr1, hF⟩ := bnd_some hF
    refine g_callSI (pc1 := 44) (As := [.int x1]) (rest := [.int x3]) C 1 (c_R_numbersOf l x1 r1 hr1) s_R_numbersOf kw_305 rfl ⟨Nat.le_of_ble_eq_true rfl, Nat.le_of_ble_eq_true rfl⟩ ⟨rfl, rfl⟩ d_R_isItem_41 rfl rfl (Nat.le_of_ble_eq_true rfl) ?_
    refine g_icmp_ge (pc1 := 47) C 77 d_R_isItem_44 rfl (by decide) (fun c1 => ?_) (fun c1 => ?_)
    · replace hF := ite_t hF c1
      refine g_aload_n (pc1 := 78) C d_R_isItem_77 rfl rfl 0 rfl ?_
      obtain ⟨m2, hm2, hF⟩ := bnd_some hF
      refine g_callXV (pc1 := 81) (ws1 := WC a cs m2) (As := []) (rest := []) (b := a 14) C hK hX 0 (c_R_step l adK adV D cs a μ  m2 hm2) s_R_step kw_306 14 rfl rfl rfl ⟨Nat.le_of_ble_eq_true rfl, Nat.le_of_ble_eq_true rfl⟩ ⟨rfl, rfl⟩ d_R_isItem_78 rfl rfl (Nat.le_of_ble_eq_true rfl) ?_
      refine g_aload_n (pc1 := 82) C d_R_isItem_81 rfl rfl 0 rfl ?_
      refine get_WC_14_token (pc1 := 85) C hK (v := (m2.1 14 6)) rfl kw_299 d_R_isItem_82 rfl ?_
      refine g_iconst (pc1 := 86) (v := (3 : Int32)) C d_R_isItem_85 rfl ic_3 ?_
      refine g_icmp_ne (pc1 := 89) C 93 d_R_isItem_86 rfl (by decide) (fun c1 => ?_) (fun c1 => ?_)
      · replace hF := ite_f hF c1
        refine g_iconst (pc1 := 94) (v := (0 : Int32)) C d_R_isItem_93 rfl ic_0 ?_
        exact g_zret C hr hlk rfl d_R_isItem_94 (fst_of hF) (congrArg (WC a cs) (snd_of hF))
      · replace hF := ite_t hF c1
        refine g_iconst (pc1 := 90) (v := (1 : Int32)) C d_R_isItem_89 rfl ic_1 ?_
        refine g_goto C 94 d_R_isItem_90 (by decide) ?_
        exact g_zret C hr hlk rfl d_R_isItem_94 (fst_of hF) (congrArg (WC a cs) (snd_of hF))
    · replace hF := ite_f hF c1
      refine g_aload_n (pc1 := 48) C d_R_isItem_47 rfl rfl 0 rfl ?_
      obtain ⟨m3, hm3, hF⟩ := bnd_some hF
      refine g_callXV (pc1 := 51) (ws1 := WC a cs m3) (As := []) (rest := []) (b := a 14) C hK hX 0 (c_R_step l adK adV D cs a μ  m3 hm3) s_R_step kw_306 14 rfl rfl rfl ⟨Nat.le_of_ble_eq_true rfl, Nat.le_of_ble_eq_true rfl⟩ ⟨rfl, rfl⟩ d_R_isItem_48 rfl rfl (Nat.le_of_ble_eq_true rfl) ?_
      refine g_aload_n (pc1 := 52) C d_R_isItem_51 rfl rfl 0 rfl ?_
      refine get_WC_14_token (pc1 := 55) C hK (v := (m3.1 14 6)) rfl kw_299 d_R_isItem_52 rfl ?_
      refine g_iconst (pc1 := 56) (v := (2 : Int32)) C d_R_isItem_55 rfl ic_2 ?_
      refine g_icmp_eq (pc1 := 59) C 61 d_R_isItem_56 rfl (by decide) (fun c1 => ?_) (fun c1 => ?_)
      · replace hF := ite_t hF c1
        refine g_aload_n (pc1 := 62) C d_R_isItem_61 rfl rfl 0 rfl ?_
        refine get_WC_14_numbers (pc1 := 65) C hK kw_289 d_R_isItem_62 rfl ?_
        refine g_iload_n (pc1 := 66) C d_R_isItem_65 rfl rfl 2 rfl ?_
        refine g_aload_n (pc1 := 67) C d_R_isItem_66 rfl rfl 0 rfl ?_
        refine get_WC_14_number (pc1 := 70) C hK (v := (m3.1 14 7)) rfl kw_296 d_R_isItem_67 rfl ?_
        have hg := gd_some hF
        replace hF := hg.2
        refine g_iast (pc1 := 71) (ws1 := WC a cs (stI m3 15 x3.toNatClampNeg (m3.1 14 7))) C hK 15 (f := (m3.1 15)) rfl hg.1 (set_WC_15 _ _ _ _ _) d_R_isItem_70 rfl ?_
        refine g_iinc (pc1 := 74) (v := (x3 + (1 : Int32))) (L1 := [(3, .int (x3 + (1 : Int32))), (0, .ref (a 14)), (1, .int x1)]) C d_R_isItem_71 rfl 2 rfl (by rw [ic_1]) (by decide) rfl ?_
        refine g_goto C 39 d_R_isItem_74 (by decide) ?_
        exact g_sub [1, 2, 0] rfl (hK39 (stI m3 15 x3.toNatClampNeg (m3.1 14 7)) x1 (x3 + (1 : Int32)) hF)
      · replace hF := ite_f hF c1
        refine g_iconst (pc1 := 60) (v := (0 : Int32)) C d_R_isItem_59 rfl ic_0 ?_
        exact g_zret C hr hlk rfl d_R_isItem_60 (fst_of hF) (congrArg (WC a cs) (snd_of hF))
set_option maxHeartbeats 4000000 in
set_option maxRecDepth 100000 in
theorem p_R_isItem_30 {p : Program} {l : Launch} {e : Env} {s : State} {m : MethodId} {args : Array Value} {below : List Frame} {meth : Method} {c : Code} {D : va_G} {cs : Nat → ClassId} {a : Nat → Nat} {adK adV : Nat → Nat} {r : Int32} {μ1 : Mem} (C : Cx p s m args c b_R_isItem 4 "TentPegs$Reader") (hK : va_K D classes (tys cs) s) (hX : Sx adK adV (AC a) s s.heap) (hr : meth.sig.returnType = (some .boolean)) (hlk : meth.locks = false)  (μ : Mem) (x1 : Int32) (s0 : Int32) (hF : F_R_isItem_30  μ x1 s0 = some (r, μ1)) : G p l e { frames := 7, cells := 0, slots := 0, locals := 147 } s m args below meth c (MQ below (Qi (AC a) D (WC a cs μ1) r) args s 0 0 (AC a)) D (AC a) 4 (WC a cs μ) 30 [(0, .ref (a 14)), (1, .int x1)] [.int s0] := by
  unfold F_R_isItem_30 at hF
  refine g_istore_n (pc1 := 31) (L1 := [(2, .int s0), (0, .ref (a 14)), (1, .int x1)]) C d_R_isItem_30 rfl rfl (by decide) rfl ?_
  refine g_iload_n (pc1 := 32) C d_R_isItem_31 rfl rfl 0 rfl ?_
  refine g_if_ne (pc1 := 35) C 37 d_R_isItem_32 rfl (by decide) (fun c1 => ?_) (fun c1 => ?_)
  · replace hF := ite_f hF c1
    refine g_iconst (pc1 := 38) (v := (0 : Int32)) C d_R_isItem_37 rfl ic_0 ?_
    refine g_istore_n (pc1 := 39) (L1 := [(3, .int (0 : Int32)), (2, .int s0), (0, .ref (a 14)), (1, .int x1)]) C d_R_isItem_38 rfl rfl (by decide) rfl ?_
    exact g_sub [2, 3, 0] rfl (p_R_isItem_39 C hK hX hr hlk  μ x1 (0 : Int32) hF)
  · replace hF := ite_t hF c1
    refine g_iconst (pc1 := 36) (v := (0 : Int32)) C d_R_isItem_35 rfl ic_0 ?_
    exact g_zret C hr hlk rfl d_R_isItem_36 (fst_of hF) (congrArg (WC a cs) (snd_of hF))
set_option maxHeartbeats 4000000 in
set_option maxRecDepth 100000 in
theorem c_R_isItem (l : Launch) (adK adV : Nat → Nat) (D : va_G) (cs : Nat → ClassId) (a : Nat → Nat) (μ : Mem) (x1 : Int32) (r : Int32) (μ1 : Mem) (hF : F_R_isItem μ x1 = some (r, μ1)) : MtXI adK adV l y_R_isItem b_R_isItem 4 (some .boolean) { frames := 7, cells := 0, slots := 0, locals := 147 } D cs (AC a) (WC a cs μ) [.ref (a 14), .int x1] r (WC a cs μ1) := by
  refine met_ofX rfl (by decide +kernel) (Nat.le_of_ble_eq_true rfl) (fun p e s m below meth c C hK hX hr hlk => ?_)
  unfold F_R_isItem at hF
  show G p l e { frames := 7, cells := 0, slots := 0, locals := 147 } s m _ below meth c _ D (AC a) 4 (WC a cs μ) 0 [(0, .ref (a 14)), (1, .int x1)] []
  refine g_aload_n (pc1 := 1) C d_R_isItem_0 rfl rfl 0 rfl ?_
  refine get_WC_14_items (pc1 := 4) C hK (v := (μ.1 14 8)) rfl kw_273 d_R_isItem_1 rfl ?_
  refine g_if_ne (pc1 := 7) C 20 d_R_isItem_4 rfl (by decide) (fun c1 => ?_) (fun c1 => ?_)
  · replace hF := ite_f hF c1
    refine g_iload_n (pc1 := 21) C d_R_isItem_20 rfl rfl 1 rfl ?_
    refine g_iconst (pc1 := 22) (v := (4 : Int32)) C d_R_isItem_21 rfl ic_4 ?_
    refine g_icmp_le (pc1 := 25) C 29 d_R_isItem_22 rfl (by decide) (fun c1 => ?_) (fun c1 => ?_)
    · replace hF := ite_t hF c1
      refine g_iconst (pc1 := 30) (v := (0 : Int32)) C d_R_isItem_29 rfl ic_0 ?_
      exact g_sub [0, 1] rfl (p_R_isItem_30 C hK hX hr hlk  μ x1 (0 : Int32) hF)
    · replace hF := ite_f hF c1
      refine g_iconst (pc1 := 26) (v := (1 : Int32)) C d_R_isItem_25 rfl ic_1 ?_
      refine g_goto C 30 d_R_isItem_26 (by decide) ?_
      exact g_sub [0, 1] rfl (p_R_isItem_30 C hK hX hr hlk  μ x1 (1 : Int32) hF)
  · replace hF := ite_t hF c1
    refine g_iload_n (pc1 := 8) C d_R_isItem_7 rfl rfl 1 rfl ?_
    refine g_iconst (pc1 := 9) (v := (4 : Int32)) C d_R_isItem_8 rfl ic_4 ?_
    refine g_icmp_ne (pc1 := 12) C 16 d_R_isItem_9 rfl (by decide) (fun c1 => ?_) (fun c1 => ?_)
    · replace hF := ite_f hF c1
      refine g_iconst (pc1 := 17) (v := (0 : Int32)) C d_R_isItem_16 rfl ic_0 ?_
      refine g_goto C 30 d_R_isItem_17 (by decide) ?_
      exact g_sub [0, 1] rfl (p_R_isItem_30 C hK hX hr hlk  μ x1 (0 : Int32) hF)
    · replace hF := ite_t hF c1
      refine g_iconst (pc1 := 13) (v := (1 : Int32)) C d_R_isItem_12 rfl ic_1 ?_
      refine g_goto C 30 d_R_isItem_13 (by decide) ?_
      exact g_sub [0, 1] rfl (p_R_isItem_30 C hK hX hr hlk  μ x1 (1 : Int32) hF)
-- TentPegs$Reader.goThrough(I)V
set_option maxHeartbeats 4000000 in
set_option maxRecDepth 100000 in
theorem p_R_goThrough_80 {p : Program} {l : Launch} {e : Env} {s : State} {m : MethodId} {args : Array Value} {below : List Frame} {meth : Method} {c : Code} {D : va_G} {cs : Nat → ClassId} {a : Nat → Nat} {adK adV : Nat → Nat} {μ1 : Mem} (C : Cx p s m args c b_R_goThrough 3 "TentPegs$Reader") (hK : va_K D classes (tys cs) s) (hX : Sx adK adV (AC a) s s.heap) (hr : meth.sig.returnType = none) (hlk : meth.locks = false) (K9 : Mem → Option Mem) (hK9 : ∀ (μ : Mem) , K9 μ = some μ1 → G p l e { frames := 8, cells := 0, slots := 0, locals := 170 } s m args below meth c (MQ below (Qv (AC a) D (WC a cs μ1)) args s 0 0 (AC a)) D (AC a) 3 (WC a cs μ) 9 [(0, .ref (a 14))] []) (μ : Mem)  (hF : F_R_goThrough_80 K9 μ = some μ1) : G p l e { frames := 8, cells := 0, slots := 0, locals := 170 } s m args below meth c (MQ below (Qv (AC a) D (WC a cs μ1)) args s 0 0 (AC a)) D (AC a) 3 (WC a cs μ) 80 [(0, .ref (a 14))] [] := by
  unfold F_R_goThrough_80 at hF
  refine g_aload_n (pc1 := 81) C d_R_goThrough_80 rfl rfl 0 rfl ?_
  refine g_dup (pc1 := 82) C d_R_goThrough_81 rfl rfl ?_
  refine get_WC_14_items (pc1 := 85) C hK (v := (μ.1 14 8)) rfl kw_273 d_R_goThrough_82 rfl ?_
  refine g_iconst (pc1 := 86) (v := (1 : Int32)) C d_R_goThrough_85 rfl ic_1 ?_
  refine g_iadd (pc1 := 87) C d_R_goThrough_86 rfl ?_
  refine put_WC_14_items (pc1 := 90) C hK kw_273 d_R_goThrough_87 rfl ?_
  refine g_aload_n (pc1 := 91) C d_R_goThrough_90 rfl rfl 0 rfl ?_
  obtain ⟨m1, hm1, hF⟩ := bnd_some hF
  refine g_callXV (pc1 := 94) (ws1 := WC a cs m1) (As := []) (rest := []) (b := a 14) C hK hX 0 (c_R_step l adK adV D cs a (stI μ 14 8 ((μ.1 14 8) + (1 : Int32)))  m1 hm1) s_R_step kw_306 14 rfl rfl rfl ⟨Nat.le_of_ble_eq_true rfl, Nat.le_of_ble_eq_true rfl⟩ ⟨rfl, rfl⟩ d_R_goThrough_91 rfl rfl (Nat.le_of_ble_eq_true rfl) ?_
  refine g_goto C 9 d_R_goThrough_94 (by decide) ?_
  exact g_sub [0] rfl (hK9 m1 hF)
set_option maxHeartbeats 4000000 in
set_option maxRecDepth 100000 in
theorem p_R_goThrough_34 {p : Program} {l : Launch} {e : Env} {s : State} {m : MethodId} {args : Array Value} {below : List Frame} {meth : Method} {c : Code} {D : va_G} {cs : Nat → ClassId} {a : Nat → Nat} {adK adV : Nat → Nat} {μ1 : Mem} (C : Cx p s m args c b_R_goThrough 3 "TentPegs$Reader") (hK : va_K D classes (tys cs) s) (hX : Sx adK adV (AC a) s s.heap) (hr : meth.sig.returnType = none) (hlk : meth.locks = false) (K9 : Mem → Option Mem) (hK9 : ∀ (μ : Mem) , K9 μ = some μ1 → G p l e { frames := 8, cells := 0, slots := 0, locals := 170 } s m args below meth c (MQ below (Qv (AC a) D (WC a cs μ1)) args s 0 0 (AC a)) D (AC a) 3 (WC a cs μ) 9 [(0, .ref (a 14))] []) (μ : Mem)  (hF : F_R_goThrough_34 K9 μ = some μ1) : G p l e { frames := 8, cells := 0, slots := 0, locals := 170 } s m args below meth c (MQ below (Qv (AC a) D (WC a cs μ1)) args s 0 0 (AC a)) D (AC a) 3 (WC a cs μ) 34 [(0, .ref (a 14))] [] := by
  unfold F_R_goThrough_34 at hF
  refine g_aload_n (pc1 := 35) C d_R_goThrough_34 rfl rfl 0 rfl ?_
  refine get_WC_14_token (pc1 := 38) C hK (v := (μ.1 14 6)) rfl kw_299 d_R_goThrough_35 rfl ?_
  refine g_istore_n (pc1 := 39) (L1 := [(2, .int (μ.1 14 6)), (0, .ref (a 14))]) C d_R_goThrough_38 rfl rfl (by decide) rfl ?_
  refine g_aload_n (pc1 := 40) C d_R_goThrough_39 rfl rfl 1 rfl ?_
  refine g_iload_n (pc1 := 41) C d_R_goThrough_40 rfl rfl 0 rfl ?_
  obtain ⟨⟨r1, m1⟩, hm1, hF⟩ := bnd_some hF
  refine g_callXI (pc1 := 44) (ws1 := WC a cs m1) (As := [.int (μ.1 14 6)]) (rest := []) (b := a 14) C hK hX 1 (c_R_isItem l adK adV D cs a μ (μ.1 14 6) r1 m1 hm1) s_R_isItem kw_308 14 rfl rfl rfl ⟨Nat.le_of_ble_eq_true rfl, Nat.le_of_ble_eq_true rfl⟩ ⟨rfl, rfl⟩ d_R_goThrough_41 rfl rfl (Nat.le_of_ble_eq_true rfl) ?_
  refine g_if_ne (pc1 := 47) C 56 d_R_goThrough_44 rfl (by decide) (fun c1 => ?_) (fun c1 => ?_)
  · replace hF := ite_f hF c1
    refine g_aload_n (pc1 := 57) C d_R_goThrough_56 rfl rfl 1 rfl ?_
    refine get_WC_14_refused (pc1 := 60) C hK (v := (m1.1 14 10)) rfl kw_275 d_R_goThrough_57 rfl ?_
    refine g_iconst (pc1 := 61) (v := (-1 : Int32)) C d_R_goThrough_60 rfl ic_m1 ?_
    refine g_icmp_ne (pc1 := 64) C 80 d_R_goThrough_61 rfl (by decide) (fun c1 => ?_) (fun c1 => ?_)
    · replace hF := ite_f hF c1
      exact g_sub [1] rfl (p_R_goThrough_80 C hK hX hr hlk K9 hK9 m1 hF)
    · replace hF := ite_t hF c1
      refine g_aload_n (pc1 := 65) C d_R_goThrough_64 rfl rfl 1 rfl ?_
      refine g_iload_n (pc1 := 66) C d_R_goThrough_65 rfl rfl 0 rfl ?_
      obtain ⟨⟨r2, m2⟩, hm2, hF⟩ := bnd_some hF
      refine g_callVI (pc1 := 69) (ws1 := WC a cs m2) (As := [.int (μ.1 14 6)]) (rest := []) (b := a 14) C hK 1 (c_R_tell l D cs a m1 (μ.1 14 6) r2 m2 hm2) s_R_tell kw_309 14 rfl rfl rfl ⟨Nat.le_of_ble_eq_true rfl, Nat.le_of_ble_eq_true rfl⟩ ⟨rfl, rfl⟩ d_R_goThrough_66 rfl rfl (Nat.le_of_ble_eq_true rfl) ?_
      refine g_if_ne (pc1 := 72) C 80 d_R_goThrough_69 rfl (by decide) (fun c1 => ?_) (fun c1 => ?_)
      · replace hF := ite_f hF c1
        exact g_sub [1] rfl (p_R_goThrough_80 C hK hX hr hlk K9 hK9 m2 hF)
      · replace hF := ite_t hF c1
        refine g_aload_n (pc1 := 73) C d_R_goThrough_72 rfl rfl 1 rfl ?_
        refine g_aload_n (pc1 := 74) C d_R_goThrough_73 rfl rfl 1 rfl ?_
        refine get_WC_14_items (pc1 := 77) C hK (v := (m2.1 14 8)) rfl kw_273 d_R_goThrough_74 rfl ?_
        refine put_WC_14_refused (pc1 := 80) C hK kw_275 d_R_goThrough_77 rfl ?_
        exact g_sub [1] rfl (p_R_goThrough_80 C hK hX hr hlk K9 hK9 (stI m2 14 10 (m2.1 14 8)) hF)
  · replace hF := ite_t hF c1
    refine g_aload_n (pc1 := 48) C d_R_goThrough_47 rfl rfl 1 rfl ?_
    refine g_aload_n (pc1 := 49) C d_R_goThrough_48 rfl rfl 1 rfl ?_
    refine get_WC_14_start (pc1 := 52) C hK (v := (m1.1 14 5)) rfl kw_298 d_R_goThrough_49 rfl ?_
    refine put_WC_14_fault (pc1 := 55) C hK kw_274 d_R_goThrough_52 rfl ?_
    exact g_vret C hr hlk d_R_goThrough_55 (congrArg (WC a cs) (Option.some.inj hF))
set_option maxHeartbeats 4000000 in
set_option maxRecDepth 100000 in
theorem p_R_goThrough_9 {p : Program} {l : Launch} {e : Env} {s : State} {m : MethodId} {args : Array Value} {below : List Frame} {meth : Method} {c : Code} {D : va_G} {cs : Nat → ClassId} {a : Nat → Nat} {adK adV : Nat → Nat} {μ1 : Mem} (C : Cx p s m args c b_R_goThrough 3 "TentPegs$Reader") (hK : va_K D classes (tys cs) s) (hX : Sx adK adV (AC a) s s.heap) (hr : meth.sig.returnType = none) (hlk : meth.locks = false)  : ∀ (μ : Mem) , F_R_goThrough_9  μ = some μ1 → G p l e { frames := 8, cells := 0, slots := 0, locals := 170 } s m args below meth c (MQ below (Qv (AC a) D (WC a cs μ1)) args s 0 0 (AC a)) D (AC a) 3 (WC a cs μ) 9 [(0, .ref (a 14))] [] := by
  refine iter_ind (fun (K9 : Mem → Option Mem) => ∀ (μ : Mem) , K9 μ = some μ1 → G p l e { frames := 8, cells := 0, slots := 0, locals := 170 } s m args below meth c (MQ below (Qv (AC a) D (WC a cs μ1)) args s 0 0 (AC a)) D (AC a) 3 (WC a cs μ) 9 [(0, .ref (a 14))] []) ?_ ?_ NF
  · intro μ hF
    exact none_no hF
  · intro K9 hK9 μ hF
    unfold S_R_goThrough_9 at hF
    refine g_aload_n (pc1 := 10) C d_R_goThrough_9 rfl rfl 0 rfl ?_
    refine get_WC_14_items (pc1 := 13) C hK (v := (μ.1 14 8)) rfl kw_273 d_R_goThrough_10 rfl ?_
    refine g_if_eq (pc1 := 16) C 34 d_R_goThrough_13 rfl (by decide) (fun c1 => ?_) (fun c1 => ?_)
    · replace hF := ite_t hF c1
      exact g_sub [0] rfl (p_R_goThrough_34 C hK hX hr hlk K9 hK9 μ hF)
    · replace hF := ite_f hF c1
      refine g_aload_n (pc1 := 17) C d_R_goThrough_16 rfl rfl 0 rfl ?_
      refine get_WC_14_token (pc1 := 20) C hK (v := (μ.1 14 6)) rfl kw_299 d_R_goThrough_17 rfl ?_
      refine g_iconst (pc1 := 21) (v := (1 : Int32)) C d_R_goThrough_20 rfl ic_1 ?_
      refine g_icmp_eq (pc1 := 24) C 97 d_R_goThrough_21 rfl (by decide) (fun c1 => ?_) (fun c1 => ?_)
      · replace hF := ite_t hF c1
        exact g_vret C hr hlk d_R_goThrough_97 (congrArg (WC a cs) (Option.some.inj hF))
      · replace hF := ite_f hF c1
        refine g_aload_n (pc1 := 25) C d_R_goThrough_24 rfl rfl 0 rfl ?_
        refine get_WC_14_items (pc1 := 28) C hK (v := (μ.1 14 8)) rfl kw_273 d_R_goThrough_25 rfl ?_
        refine g_sipush (pc1 := 31) (v := (150 : Int32)) C d_R_goThrough_28 rfl sp_150 ?_
        refine g_icmp_ge (pc1 := 34) C 97 d_R_goThrough_31 rfl (by decide) (fun c1 => ?_) (fun c1 => ?_)
        · replace hF := ite_t hF c1
          exact g_vret C hr hlk d_R_goThrough_97 (congrArg (WC a cs) (Option.some.inj hF))
        · replace hF := ite_f hF c1
          exact g_sub [0] rfl (p_R_goThrough_34 C hK hX hr hlk K9 hK9 μ hF)
set_option maxHeartbeats 4000000 in
set_option maxRecDepth 100000 in
theorem c_R_goThrough (l : Launch) (adK adV : Nat → Nat) (D : va_G) (cs : Nat → ClassId) (a : Nat → Nat) (μ : Mem) (x1 : Int32) (μ1 : Mem) (hF : F_R_goThrough μ x1 = some μ1) : MtXV adK adV l y_R_goThrough b_R_goThrough 3 none { frames := 8, cells := 0, slots := 0, locals := 170 } D cs (AC a) (WC a cs μ) [.ref (a 14), .int x1] (WC a cs μ1) := by
  refine met_ofX rfl (by decide +kernel) (Nat.le_of_ble_eq_true rfl) (fun p e s m below meth c C hK hX hr hlk => ?_)
  unfold F_R_goThrough at hF
  show G p l e { frames := 8, cells := 0, slots := 0, locals := 170 } s m _ below meth c _ D (AC a) 3 (WC a cs μ) 0 [(0, .ref (a 14)), (1, .int x1)] []
  refine g_aload_n (pc1 := 1) C d_R_goThrough_0 rfl rfl 0 rfl ?_
  refine g_iload_n (pc1 := 2) C d_R_goThrough_1 rfl rfl 1 rfl ?_
  obtain ⟨m1, hm1, hF⟩ := bnd_some hF
  refine g_callVV (pc1 := 5) (ws1 := WC a cs m1) (As := [.int x1]) (rest := []) (b := a 14) C hK 1 (c_R_begin l D cs a μ x1 m1 hm1) s_R_begin kw_307 14 rfl rfl rfl ⟨Nat.le_of_ble_eq_true rfl, Nat.le_of_ble_eq_true rfl⟩ ⟨rfl, rfl⟩ d_R_goThrough_2 rfl rfl (Nat.le_of_ble_eq_true rfl) ?_
  refine g_aload_n (pc1 := 6) C d_R_goThrough_5 rfl rfl 0 rfl ?_
  obtain ⟨m2, hm2, hF⟩ := bnd_some hF
  refine g_callXV (pc1 := 9) (ws1 := WC a cs m2) (As := []) (rest := []) (b := a 14) C hK hX 0 (c_R_step l adK adV D cs a m1  m2 hm2) s_R_step kw_306 14 rfl rfl rfl ⟨Nat.le_of_ble_eq_true rfl, Nat.le_of_ble_eq_true rfl⟩ ⟨rfl, rfl⟩ d_R_goThrough_6 rfl rfl (Nat.le_of_ble_eq_true rfl) ?_
  exact g_sub [0] rfl (p_R_goThrough_9 C hK hX hr hlk  m2 hF)
-- TentPegs.read()I
set_option maxHeartbeats 4000000 in
set_option maxRecDepth 100000 in
theorem c_T_read (l : Launch) (adK adV : Nat → Nat) (D : va_G) (cs : Nat → ClassId) (a : Nat → Nat) (μ : Mem)  (r : Int32) (μ1 : Mem) (hF : F_T_read μ = some (r, μ1)) : MtXI adK adV l y_T_read b_T_read 1 (some .int) { frames := 9, cells := 0, slots := 0, locals := 192 } D cs (AC a) (WC a cs μ) [.ref (a 0)] r (WC a cs μ1) := by
  refine met_ofX rfl (by decide +kernel) (Nat.le_of_ble_eq_true rfl) (fun p e s m below meth c C hK hX hr hlk => ?_)
  unfold F_T_read at hF
  show G p l e { frames := 9, cells := 0, slots := 0, locals := 192 } s m _ below meth c _ D (AC a) 1 (WC a cs μ) 0 [(0, .ref (a 0))] []
  refine g_aload_n (pc1 := 1) C d_T_read_0 rfl rfl 0 rfl ?_
  refine get_WC_0_reader (pc1 := 4) C hK kw_310 d_T_read_1 rfl ?_
  refine g_aload_n (pc1 := 5) C d_T_read_4 rfl rfl 0 rfl ?_
  refine get_WC_0_typed (pc1 := 8) C hK (v := (μ.1 0 7)) rfl kw_31 d_T_read_5 rfl ?_
  obtain ⟨m1, hm1, hF⟩ := bnd_some hF
  refine g_callXV (pc1 := 11) (ws1 := WC a cs m1) (As := [.int (μ.1 0 7)]) (rest := []) (b := a 14) C hK hX 1 (c_R_goThrough l adK adV D cs a μ (μ.1 0 7) m1 hm1) s_R_goThrough kw_311 14 rfl rfl rfl ⟨Nat.le_of_ble_eq_true rfl, Nat.le_of_ble_eq_true rfl⟩ ⟨rfl, rfl⟩ d_T_read_8 rfl rfl (Nat.le_of_ble_eq_true rfl) ?_
  refine g_aload_n (pc1 := 12) C d_T_read_11 rfl rfl 0 rfl ?_
  refine get_WC_0_reader (pc1 := 15) C hK kw_310 d_T_read_12 rfl ?_
  refine get_WC_14_fault (pc1 := 18) C hK (v := (m1.1 14 9)) rfl kw_312 d_T_read_15 rfl ?_
  refine g_iconst (pc1 := 19) (v := (-1 : Int32)) C d_T_read_18 rfl ic_m1 ?_
  refine g_icmp_eq (pc1 := 22) C 33 d_T_read_19 rfl (by decide) (fun c1 => ?_) (fun c1 => ?_)
  · replace hF := ite_t hF c1
    refine g_aload_n (pc1 := 34) C d_T_read_33 rfl rfl 0 rfl ?_
    refine get_WC_0_reader (pc1 := 37) C hK kw_310 d_T_read_34 rfl ?_
    refine get_WC_14_refused (pc1 := 40) C hK (v := (m1.1 14 10)) rfl kw_313 d_T_read_37 rfl ?_
    refine g_iconst (pc1 := 41) (v := (-1 : Int32)) C d_T_read_40 rfl ic_m1 ?_
    refine g_icmp_eq (pc1 := 44) C 56 d_T_read_41 rfl (by decide) (fun c1 => ?_) (fun c1 => ?_)
    · replace hF := ite_t hF c1
      refine g_aload_n (pc1 := 57) C d_T_read_56 rfl rfl 0 rfl ?_
      refine get_WC_0_field (pc1 := 60) C hK kw_12 d_T_read_57 rfl ?_
      refine g_aload_n (pc1 := 61) C d_T_read_60 rfl rfl 0 rfl ?_
      refine get_WC_0_reader (pc1 := 64) C hK kw_310 d_T_read_61 rfl ?_
      refine get_WC_14_draft (pc1 := 67) C hK kw_314 d_T_read_64 rfl ?_
      obtain ⟨m2, hm2, hF⟩ := bnd_some hF
      refine g_callFV (pc1 := 70) (ws1 := WC a cs (put6 1 0 (put6 16 6 m1 m2) m2)) (As := [.ref (a 16)]) (rest := []) (b := a 1) C hK 1 (fr2_1_16 a cs m1 m2) (c_F_become l D cs (off2 1 16 a) (two 1 16 m1)  m2 hm2) s_F_become kw_163 1 rfl rfl rfl ⟨Nat.le_of_ble_eq_true rfl, Nat.le_of_ble_eq_true rfl⟩ ⟨rfl, rfl⟩ d_T_read_67 rfl rfl (Nat.le_of_ble_eq_true rfl) ?_
      refine g_aload_n (pc1 := 71) C d_T_read_70 rfl rfl 0 rfl ?_
      refine get_WC_0_reader (pc1 := 74) C hK kw_310 d_T_read_71 rfl ?_
      refine get_WC_14_items (pc1 := 77) C hK (v := (m1.1 14 8)) rfl kw_315 d_T_read_74 rfl ?_
      exact g_iret C hr hlk d_T_read_77 (fst_of hF) (congrArg (WC a cs) (snd_of hF))
    · replace hF := ite_f hF c1
      refine g_sipush (pc1 := 47) (v := (-1000 : Int32)) C d_T_read_44 rfl sp_m1000 ?_
      refine g_aload_n (pc1 := 48) C d_T_read_47 rfl rfl 0 rfl ?_
      refine get_WC_0_reader (pc1 := 51) C hK kw_310 d_T_read_48 rfl ?_
      refine get_WC_14_refused (pc1 := 54) C hK (v := (m1.1 14 10)) rfl kw_313 d_T_read_51 rfl ?_
      refine g_isub (pc1 := 55) C d_T_read_54 rfl ?_
      exact g_iret C hr hlk d_T_read_55 (fst_of hF) (congrArg (WC a cs) (snd_of hF))
  · replace hF := ite_f hF c1
    refine g_bipush (pc1 := 24) (v := (-10 : Int32)) C d_T_read_22 rfl bp_m10 ?_
    refine g_aload_n (pc1 := 25) C d_T_read_24 rfl rfl 0 rfl ?_
    refine get_WC_0_reader (pc1 := 28) C hK kw_310 d_T_read_25 rfl ?_
    refine get_WC_14_fault (pc1 := 31) C hK (v := (m1.1 14 9)) rfl kw_312 d_T_read_28 rfl ?_
    refine g_isub (pc1 := 32) C d_T_read_31 rfl ?_
    exact g_iret C hr hlk d_T_read_32 (fst_of hF) (congrArg (WC a cs) (snd_of hF))
