-- TentPegs$Plans.ordersWithOneMore(I)I
set_option maxHeartbeats 4000000 in
set_option maxRecDepth 100000 in
theorem p_P_ordersWithOneMore_4 {p : Program} {l : Launch} {e : Env} {s : State} {m : MethodId} {args : Array Value} {below : List Frame} {meth : Method} {c : Code} {D : va_G} {cs : Nat → ClassId} {a : Nat → Nat} {μ : Mem} {r : Int32} (C : Cx p s m args c b_P_ordersWithOneMore 4 "TentPegs$Plans") (hK : va_K D classes (tys cs) s) (hr : meth.sig.returnType = (some .int)) (hlk : meth.locks = false)  : ∀ (x1 : Int32) (x2 : Int32) (x3 : Int32), F_P_ordersWithOneMore_4  μ x1 x2 x3 = some r → G p l e { frames := 1, cells := 0, slots := 0, locals := 21 } s m args below meth c (MQ below (Qi (AC a) D (WC a cs μ) r) args s 0 0 (AC a)) D (AC a) 4 (WC a cs μ) 4 [(0, .ref (a 10)), (1, .int x1), (2, .int x2), (3, .int x3)] [] := by
  refine iter_ind (fun (K4 : Mem → Int32 → Int32 → Int32 → Option Int32) => ∀ (x1 : Int32) (x2 : Int32) (x3 : Int32), K4 μ x1 x2 x3 = some r → G p l e { frames := 1, cells := 0, slots := 0, locals := 21 } s m args below meth c (MQ below (Qi (AC a) D (WC a cs μ) r) args s 0 0 (AC a)) D (AC a) 4 (WC a cs μ) 4 [(0, .ref (a 10)), (1, .int x1), (2, .int x2), (3, .int x3)] []) ?_ ?_ NF
  · intro x1 x2 x3 hF
    exact none_no hF
  · intro K4 hK4 x1 x2 x3 hF
    unfold S_P_ordersWithOneMore_4 at hF
    refine g_iload_n (pc1 := 5) C d_P_ordersWithOneMore_4 rfl rfl 3 rfl ?_
    refine g_aload_n (pc1 := 6) C d_P_ordersWithOneMore_5 rfl rfl 0 rfl ?_
    refine get_WC_10_field (pc1 := 9) C hK kw_99 d_P_ordersWithOneMore_6 rfl ?_
    refine get_WC_1_pegs (pc1 := 12) C hK (v := (μ.1 1 0)) rfl kw_100 d_P_ordersWithOneMore_9 rfl ?_
    refine g_icmp_ge (pc1 := 15) C 42 d_P_ordersWithOneMore_12 rfl (by decide) (fun c1 => ?_) (fun c1 => ?_)
    · replace hF := ite_t hF c1
      refine g_iload_n (pc1 := 43) C d_P_ordersWithOneMore_42 rfl rfl 2 rfl ?_
      exact g_iret C hr hlk d_P_ordersWithOneMore_43 (Option.some.inj hF) rfl
    · replace hF := ite_f hF c1
      refine g_iload_n (pc1 := 16) C d_P_ordersWithOneMore_15 rfl rfl 1 rfl ?_
      refine g_iload_n (pc1 := 17) C d_P_ordersWithOneMore_16 rfl rfl 3 rfl ?_
      obtain ⟨r1, hr1, hF⟩ := bnd_some hF
      refine g_callNI (pc1 := 20) (As := [.int x1, .int x3]) (rest := []) C 2 (c_T_has l x1 x3 r1 hr1) s_T_has 10 rfl rfl ⟨Nat.le_of_ble_eq_true rfl, Nat.le_of_ble_eq_true rfl⟩ ⟨rfl, rfl⟩ d_P_ordersWithOneMore_17 rfl rfl (Nat.le_of_ble_eq_true rfl) ?_
      refine g_if_ne (pc1 := 23) C 36 d_P_ordersWithOneMore_20 rfl (by decide) (fun c1 => ?_) (fun c1 => ?_)
      · replace hF := ite_f hF c1
        refine g_iinc (pc1 := 39) (v := (x3 + (1 : Int32))) (L1 := [(3, .int (x3 + (1 : Int32))), (0, .ref (a 10)), (1, .int x1), (2, .int x2)]) C d_P_ordersWithOneMore_36 rfl 3 rfl (by rw [ic_1]) (by decide) rfl ?_
        refine g_goto C 4 d_P_ordersWithOneMore_39 (by decide) ?_
        exact g_sub [1, 2, 3, 0] rfl (hK4 x1 x2 (x3 + (1 : Int32)) hF)
      · replace hF := ite_t hF c1
        refine g_iload_n (pc1 := 24) C d_P_ordersWithOneMore_23 rfl rfl 2 rfl ?_
        refine g_aload_n (pc1 := 25) C d_P_ordersWithOneMore_24 rfl rfl 0 rfl ?_
        refine get_WC_10_orders (pc1 := 28) C hK kw_130 d_P_ordersWithOneMore_25 rfl ?_
        refine g_iload_n (pc1 := 29) C d_P_ordersWithOneMore_28 rfl rfl 1 rfl ?_
        refine g_iconst (pc1 := 30) (v := (1 : Int32)) C d_P_ordersWithOneMore_29 rfl ic_1 ?_
        refine g_iload_n (pc1 := 31) C d_P_ordersWithOneMore_30 rfl rfl 3 rfl ?_
        refine g_ishl (pc1 := 32) C d_P_ordersWithOneMore_31 rfl ?_
        refine g_ior (pc1 := 33) C d_P_ordersWithOneMore_32 rfl ?_
        have hg := gd_some hF
        replace hF := hg.2
        refine g_iald (pc1 := 34) C hK 11 (f := (μ.1 11)) rfl hg.1 d_P_ordersWithOneMore_33 rfl ?_
        refine g_iadd (pc1 := 35) C d_P_ordersWithOneMore_34 rfl ?_
        refine g_istore_n (pc1 := 36) (L1 := [(2, .int (x2 + ((μ.1 11) (x1 ||| ((1 : Int32) <<< (x3 &&& 31))).toNatClampNeg))), (0, .ref (a 10)), (1, .int x1), (3, .int x3)]) C d_P_ordersWithOneMore_35 rfl rfl (by decide) rfl ?_
        refine g_iinc (pc1 := 39) (v := (x3 + (1 : Int32))) (L1 := [(3, .int (x3 + (1 : Int32))), (2, .int (x2 + ((μ.1 11) (x1 ||| ((1 : Int32) <<< (x3 &&& 31))).toNatClampNeg))), (0, .ref (a 10)), (1, .int x1)]) C d_P_ordersWithOneMore_36 rfl 3 rfl (by rw [ic_1]) (by decide) rfl ?_
        refine g_goto C 4 d_P_ordersWithOneMore_39 (by decide) ?_
        exact g_sub [2, 3, 1, 0] rfl (hK4 x1 (x2 + ((μ.1 11) (x1 ||| ((1 : Int32) <<< (x3 &&& 31))).toNatClampNeg)) (x3 + (1 : Int32)) hF)
set_option maxHeartbeats 4000000 in
set_option maxRecDepth 100000 in
theorem c_P_ordersWithOneMore (l : Launch) (D : va_G) (cs : Nat → ClassId) (a : Nat → Nat) (μ : Mem) (x1 : Int32) (r : Int32) (hF : F_P_ordersWithOneMore μ x1 = some r) : MetI l y_P_ordersWithOneMore b_P_ordersWithOneMore 4 (some .int) { frames := 1, cells := 0, slots := 0, locals := 21 } D cs (AC a) (WC a cs μ) [.ref (a 10), .int x1] r (WC a cs μ) := by
  refine met_of rfl (by decide +kernel) (Nat.le_of_ble_eq_true rfl) (fun p e s m below meth c C hK hr hlk => ?_)
  unfold F_P_ordersWithOneMore at hF
  show G p l e { frames := 1, cells := 0, slots := 0, locals := 21 } s m _ below meth c _ D (AC a) 4 (WC a cs μ) 0 [(0, .ref (a 10)), (1, .int x1)] []
  refine g_iconst (pc1 := 1) (v := (0 : Int32)) C d_P_ordersWithOneMore_0 rfl ic_0 ?_
  refine g_istore_n (pc1 := 2) (L1 := [(2, .int (0 : Int32)), (0, .ref (a 10)), (1, .int x1)]) C d_P_ordersWithOneMore_1 rfl rfl (by decide) rfl ?_
  refine g_iconst (pc1 := 3) (v := (0 : Int32)) C d_P_ordersWithOneMore_2 rfl ic_0 ?_
  refine g_istore_n (pc1 := 4) (L1 := [(3, .int (0 : Int32)), (2, .int (0 : Int32)), (0, .ref (a 10)), (1, .int x1)]) C d_P_ordersWithOneMore_3 rfl rfl (by decide) rfl ?_
  exact g_sub [2, 3, 1, 0] rfl (p_P_ordersWithOneMore_4 C hK hr hlk  x1 (0 : Int32) (0 : Int32) hF)
-- TentPegs$Plans.countOrders(III)V
set_option maxHeartbeats 4000000 in
set_option maxRecDepth 100000 in
theorem p_P_countOrders_98 {p : Program} {l : Launch} {e : Env} {s : State} {m : MethodId} {args : Array Value} {below : List Frame} {meth : Method} {c : Code} {D : va_G} {cs : Nat → ClassId} {a : Nat → Nat} {μ1 : Mem} (C : Cx p s m args c b_P_countOrders 8 "TentPegs$Plans") (hK : va_K D classes (tys cs) s) (hr : meth.sig.returnType = none) (hlk : meth.locks = false) (K17 : Mem → Int32 → Int32 → Int32 → Int32 → Int32 → Option Mem) (hK17 : ∀ (μ : Mem) (x1 : Int32) (x2 : Int32) (x3 : Int32) (x4 : Int32) (x5 : Int32), K17 μ x1 x2 x3 x4 x5 = some μ1 → G p l e { frames := 5, cells := 0, slots := 0, locals := 110 } s m args below meth c (MQ below (Qv (AC a) D (WC a cs μ1)) args s 0 0 (AC a)) D (AC a) 8 (WC a cs μ) 17 [(0, .ref (a 10)), (1, .int x1), (2, .int x2), (3, .int x3), (4, .int x4), (5, .int x5)] []) (μ : Mem) (x1 : Int32) (x2 : Int32) (x3 : Int32) (x4 : Int32) (x5 : Int32) (hF : F_P_countOrders_98 K17 μ x1 x2 x3 x4 x5 = some μ1) : G p l e { frames := 5, cells := 0, slots := 0, locals := 110 } s m args below meth c (MQ below (Qv (AC a) D (WC a cs μ1)) args s 0 0 (AC a)) D (AC a) 8 (WC a cs μ) 98 [(0, .ref (a 10)), (1, .int x1), (2, .int x2), (3, .int x3), (4, .int x4), (5, .int x5)] [] := by
  unfold F_P_countOrders_98 at hF
  refine g_aload_n (pc1 := 99) C d_P_countOrders_98 rfl rfl 0 rfl ?_
  refine get_WC_10_orders (pc1 := 102) C hK kw_130 d_P_countOrders_99 rfl ?_
  refine g_iload (pc1 := 104) C d_P_countOrders_102 rfl 5 rfl ?_
  refine g_iload (pc1 := 106) C d_P_countOrders_104 rfl 5 rfl ?_
  refine g_iload (pc1 := 108) C d_P_countOrders_106 rfl 4 rfl ?_
  refine g_icmp_ne (pc1 := 111) C 115 d_P_countOrders_108 rfl (by decide) (fun c1 => ?_) (fun c1 => ?_)
  · replace hF := ite_f hF c1
    refine g_aload_n (pc1 := 116) C d_P_countOrders_115 rfl rfl 0 rfl ?_
    refine g_iload (pc1 := 118) C d_P_countOrders_116 rfl 5 rfl ?_
    obtain ⟨r1, hr1, hF⟩ := bnd_some hF
    refine g_callVI (pc1 := 121) (ws1 := WC a cs μ) (As := [.int x5]) (rest := [.int x5, .ref (a 11)]) (b := a 10) C hK 1 (c_P_ordersWithOneMore l D cs a μ x5 r1 hr1) s_P_ordersWithOneMore kw_132 10 rfl rfl rfl ⟨Nat.le_of_ble_eq_true rfl, Nat.le_of_ble_eq_true rfl⟩ ⟨rfl, rfl⟩ d_P_countOrders_118 rfl rfl (Nat.le_of_ble_eq_true rfl) ?_
    have hg := gd_some hF
    replace hF := hg.2
    refine g_iast (pc1 := 122) (ws1 := WC a cs (stI μ 11 x5.toNatClampNeg r1)) C hK 11 (f := (μ.1 11)) rfl hg.1 (set_WC_11 _ _ _ _ _) d_P_countOrders_121 rfl ?_
    refine g_iinc (pc1 := 125) (v := (x5 + (-1 : Int32))) (L1 := [(5, .int (x5 + (-1 : Int32))), (0, .ref (a 10)), (1, .int x1), (2, .int x2), (3, .int x3), (4, .int x4)]) C d_P_countOrders_122 rfl 5 rfl (by rw [ic_m1]) (by decide) rfl ?_
    refine g_goto C 17 d_P_countOrders_125 (by decide) ?_
    exact g_sub [1, 2, 3, 4, 5, 0] rfl (hK17 (stI μ 11 x5.toNatClampNeg r1) x1 x2 x3 x4 (x5 + (-1 : Int32)) hF)
  · replace hF := ite_t hF c1
    refine g_iconst (pc1 := 112) (v := (1 : Int32)) C d_P_countOrders_111 rfl ic_1 ?_
    refine g_goto C 121 d_P_countOrders_112 (by decide) ?_
    have hg := gd_some hF
    replace hF := hg.2
    refine g_iast (pc1 := 122) (ws1 := WC a cs (stI μ 11 x5.toNatClampNeg (1 : Int32))) C hK 11 (f := (μ.1 11)) rfl hg.1 (set_WC_11 _ _ _ _ _) d_P_countOrders_121 rfl ?_
    refine g_iinc (pc1 := 125) (v := (x5 + (-1 : Int32))) (L1 := [(5, .int (x5 + (-1 : Int32))), (0, .ref (a 10)), (1, .int x1), (2, .int x2), (3, .int x3), (4, .int x4)]) C d_P_countOrders_122 rfl 5 rfl (by rw [ic_m1]) (by decide) rfl ?_
    refine g_goto C 17 d_P_countOrders_125 (by decide) ?_
    exact g_sub [1, 2, 3, 4, 5, 0] rfl (hK17 (stI μ 11 x5.toNatClampNeg (1 : Int32)) x1 x2 x3 x4 (x5 + (-1 : Int32)) hF)
set_option maxHeartbeats 4000000 in
set_option maxRecDepth 100000 in
theorem p_P_countOrders_87 {p : Program} {l : Launch} {e : Env} {s : State} {m : MethodId} {args : Array Value} {below : List Frame} {meth : Method} {c : Code} {D : va_G} {cs : Nat → ClassId} {a : Nat → Nat} {μ1 : Mem} (C : Cx p s m args c b_P_countOrders 8 "TentPegs$Plans") (hK : va_K D classes (tys cs) s) (hr : meth.sig.returnType = none) (hlk : meth.locks = false) (K17 : Mem → Int32 → Int32 → Int32 → Int32 → Int32 → Option Mem) (hK17 : ∀ (μ : Mem) (x1 : Int32) (x2 : Int32) (x3 : Int32) (x4 : Int32) (x5 : Int32), K17 μ x1 x2 x3 x4 x5 = some μ1 → G p l e { frames := 5, cells := 0, slots := 0, locals := 110 } s m args below meth c (MQ below (Qv (AC a) D (WC a cs μ1)) args s 0 0 (AC a)) D (AC a) 8 (WC a cs μ) 17 [(0, .ref (a 10)), (1, .int x1), (2, .int x2), (3, .int x3), (4, .int x4), (5, .int x5)] []) (μ : Mem) (x1 : Int32) (x2 : Int32) (x3 : Int32) (x4 : Int32) (x5 : Int32) (hF : F_P_countOrders_87 K17 μ x1 x2 x3 x4 x5 = some μ1) : G p l e { frames := 5, cells := 0, slots := 0, locals := 110 } s m args below meth c (MQ below (Qv (AC a) D (WC a cs μ1)) args s 0 0 (AC a)) D (AC a) 8 (WC a cs μ) 87 [(0, .ref (a 10)), (1, .int x1), (2, .int x2), (3, .int x3), (4, .int x4), (5, .int x5)] [] := by
  unfold F_P_countOrders_87 at hF
  refine g_aload_n (pc1 := 88) C d_P_countOrders_87 rfl rfl 0 rfl ?_
  refine get_WC_10_orders (pc1 := 91) C hK kw_130 d_P_countOrders_88 rfl ?_
  refine g_iload (pc1 := 93) C d_P_countOrders_91 rfl 5 rfl ?_
  refine g_iconst (pc1 := 94) (v := (0 : Int32)) C d_P_countOrders_93 rfl ic_0 ?_
  have hg := gd_some hF
  replace hF := hg.2
  refine g_iast (pc1 := 95) (ws1 := WC a cs (stI μ 11 x5.toNatClampNeg (0 : Int32))) C hK 11 (f := (μ.1 11)) rfl hg.1 (set_WC_11 _ _ _ _ _) d_P_countOrders_94 rfl ?_
  refine g_goto C 122 d_P_countOrders_95 (by decide) ?_
  refine g_iinc (pc1 := 125) (v := (x5 + (-1 : Int32))) (L1 := [(5, .int (x5 + (-1 : Int32))), (0, .ref (a 10)), (1, .int x1), (2, .int x2), (3, .int x3), (4, .int x4)]) C d_P_countOrders_122 rfl 5 rfl (by rw [ic_m1]) (by decide) rfl ?_
  refine g_goto C 17 d_P_countOrders_125 (by decide) ?_
  exact g_sub [1, 2, 3, 4, 5, 0] rfl (hK17 (stI μ 11 x5.toNatClampNeg (0 : Int32)) x1 x2 x3 x4 (x5 + (-1 : Int32)) hF)
set_option maxHeartbeats 4000000 in
set_option maxRecDepth 100000 in
theorem p_P_countOrders_53 {p : Program} {l : Launch} {e : Env} {s : State} {m : MethodId} {args : Array Value} {below : List Frame} {meth : Method} {c : Code} {D : va_G} {cs : Nat → ClassId} {a : Nat → Nat} {μ1 : Mem} (C : Cx p s m args c b_P_countOrders 8 "TentPegs$Plans") (hK : va_K D classes (tys cs) s) (hr : meth.sig.returnType = none) (hlk : meth.locks = false) (K17 : Mem → Int32 → Int32 → Int32 → Int32 → Int32 → Option Mem) (hK17 : ∀ (μ : Mem) (x1 : Int32) (x2 : Int32) (x3 : Int32) (x4 : Int32) (x5 : Int32), K17 μ x1 x2 x3 x4 x5 = some μ1 → G p l e { frames := 5, cells := 0, slots := 0, locals := 110 } s m args below meth c (MQ below (Qv (AC a) D (WC a cs μ1)) args s 0 0 (AC a)) D (AC a) 8 (WC a cs μ) 17 [(0, .ref (a 10)), (1, .int x1), (2, .int x2), (3, .int x3), (4, .int x4), (5, .int x5)] []) (μ : Mem) (x1 : Int32) (x2 : Int32) (x3 : Int32) (x4 : Int32) (x5 : Int32) (x6 : Int32) (s0 : Int32) (hF : F_P_countOrders_53 K17 μ x1 x2 x3 x4 x5 x6 s0 = some μ1) : G p l e { frames := 5, cells := 0, slots := 0, locals := 110 } s m args below meth c (MQ below (Qv (AC a) D (WC a cs μ1)) args s 0 0 (AC a)) D (AC a) 8 (WC a cs μ) 53 [(0, .ref (a 10)), (1, .int x1), (2, .int x2), (3, .int x3), (4, .int x4), (5, .int x5), (6, .int x6)] [.int s0] := by
  unfold F_P_countOrders_53 at hF
  refine g_istore (pc1 := 55) (L1 := [(7, .int s0), (0, .ref (a 10)), (1, .int x1), (2, .int x2), (3, .int x3), (4, .int x4), (5, .int x5), (6, .int x6)]) C d_P_countOrders_53 rfl (by decide) rfl ?_
  refine g_aload_n (pc1 := 56) C d_P_countOrders_55 rfl rfl 1 rfl ?_
  refine get_WC_10_gale (pc1 := 59) C hK kw_102 d_P_countOrders_56 rfl ?_
  refine g_iload (pc1 := 61) C d_P_countOrders_59 rfl 6 rfl ?_
  refine put_WC_7_standing (pc1 := 64) C hK kw_103 d_P_countOrders_61 rfl ?_
  refine g_iload (pc1 := 66) C d_P_countOrders_64 rfl 0 rfl ?_
  refine g_if_eq (pc1 := 69) C 98 d_P_countOrders_66 rfl (by decide) (fun c1 => ?_) (fun c1 => ?_)
  · replace hF := ite_t hF c1
    exact g_sub [1, 2, 3, 4, 5, 6] rfl (p_P_countOrders_98 C hK hr hlk K17 hK17 (stI μ 7 4 x5) x1 x2 x3 x4 x5 hF)
  · replace hF := ite_f hF c1
    refine g_iload (pc1 := 71) C d_P_countOrders_69 rfl 7 rfl ?_
    refine g_iconst (pc1 := 72) (v := (1 : Int32)) C d_P_countOrders_71 rfl ic_1 ?_
    refine g_icmp_eq (pc1 := 75) C 87 d_P_countOrders_72 rfl (by decide) (fun c1 => ?_) (fun c1 => ?_)
    · replace hF := ite_t hF c1
      exact g_sub [1, 2, 3, 4, 5, 6] rfl (p_P_countOrders_87 C hK hr hlk K17 hK17 (stI μ 7 4 x5) x1 x2 x3 x4 x5 hF)
    · replace hF := ite_f hF c1
      refine g_aload_n (pc1 := 76) C d_P_countOrders_75 rfl rfl 1 rfl ?_
      refine get_WC_10_gale (pc1 := 79) C hK kw_102 d_P_countOrders_76 rfl ?_
      refine g_iload_n (pc1 := 80) C d_P_countOrders_79 rfl rfl 3 rfl ?_
      refine g_iload_n (pc1 := 81) C d_P_countOrders_80 rfl rfl 4 rfl ?_
      obtain ⟨r1, hr1, hF⟩ := bnd_some hF
      refine g_callVI (pc1 := 84) (ws1 := WC a cs (stI μ 7 4 x5)) (As := [.int x2, .int x3]) (rest := []) (b := a 7) C hK 2 (c_G_takesNone l D cs a (stI μ 7 4 x5) x2 x3 r1 hr1) s_G_takesNone kw_131 7 rfl rfl rfl ⟨Nat.le_of_ble_eq_true rfl, Nat.le_of_ble_eq_true rfl⟩ ⟨rfl, rfl⟩ d_P_countOrders_81 rfl rfl (Nat.le_of_ble_eq_true rfl) ?_
      refine g_if_ne (pc1 := 87) C 98 d_P_countOrders_84 rfl (by decide) (fun c1 => ?_) (fun c1 => ?_)
      · replace hF := ite_f hF c1
        exact g_sub [1, 2, 3, 4, 5, 6] rfl (p_P_countOrders_98 C hK hr hlk K17 hK17 (stI μ 7 4 x5) x1 x2 x3 x4 x5 hF)
      · replace hF := ite_t hF c1
        exact g_sub [1, 2, 3, 4, 5, 6] rfl (p_P_countOrders_87 C hK hr hlk K17 hK17 (stI μ 7 4 x5) x1 x2 x3 x4 x5 hF)
set_option maxHeartbeats 4000000 in
set_option maxRecDepth 100000 in
theorem p_P_countOrders_48 {p : Program} {l : Launch} {e : Env} {s : State} {m : MethodId} {args : Array Value} {below : List Frame} {meth : Method} {c : Code} {D : va_G} {cs : Nat → ClassId} {a : Nat → Nat} {μ1 : Mem} (C : Cx p s m args c b_P_countOrders 8 "TentPegs$Plans") (hK : va_K D classes (tys cs) s) (hr : meth.sig.returnType = none) (hlk : meth.locks = false) (K17 : Mem → Int32 → Int32 → Int32 → Int32 → Int32 → Option Mem) (hK17 : ∀ (μ : Mem) (x1 : Int32) (x2 : Int32) (x3 : Int32) (x4 : Int32) (x5 : Int32), K17 μ x1 x2 x3 x4 x5 = some μ1 → G p l e { frames := 5, cells := 0, slots := 0, locals := 110 } s m args below meth c (MQ below (Qv (AC a) D (WC a cs μ1)) args s 0 0 (AC a)) D (AC a) 8 (WC a cs μ) 17 [(0, .ref (a 10)), (1, .int x1), (2, .int x2), (3, .int x3), (4, .int x4), (5, .int x5)] []) (μ : Mem) (x1 : Int32) (x2 : Int32) (x3 : Int32) (x4 : Int32) (x5 : Int32) (x6 : Int32) (hF : F_P_countOrders_48 K17 μ x1 x2 x3 x4 x5 x6 = some μ1) : G p l e { frames := 5, cells := 0, slots := 0, locals := 110 } s m args below meth c (MQ below (Qv (AC a) D (WC a cs μ1)) args s 0 0 (AC a)) D (AC a) 8 (WC a cs μ) 48 [(0, .ref (a 10)), (1, .int x1), (2, .int x2), (3, .int x3), (4, .int x4), (5, .int x5), (6, .int x6)] [] := by
  unfold F_P_countOrders_48 at hF
  refine g_iconst (pc1 := 49) (v := (1 : Int32)) C d_P_countOrders_48 rfl ic_1 ?_
  refine g_goto C 53 d_P_countOrders_49 (by decide) ?_
  exact g_sub [0, 1, 2, 3, 4, 5, 6] rfl (p_P_countOrders_53 C hK hr hlk K17 hK17 μ x1 x2 x3 x4 x5 x6 (1 : Int32) hF)
set_option maxHeartbeats 4000000 in
set_option maxRecDepth 100000 in
theorem p_P_countOrders_41 {p : Program} {l : Launch} {e : Env} {s : State} {m : MethodId} {args : Array Value} {below : List Frame} {meth : Method} {c : Code} {D : va_G} {cs : Nat → ClassId} {a : Nat → Nat} {μ1 : Mem} (C : Cx p s m args c b_P_countOrders 8 "TentPegs$Plans") (hK : va_K D classes (tys cs) s) (hr : meth.sig.returnType = none) (hlk : meth.locks = false) (K17 : Mem → Int32 → Int32 → Int32 → Int32 → Int32 → Option Mem) (hK17 : ∀ (μ : Mem) (x1 : Int32) (x2 : Int32) (x3 : Int32) (x4 : Int32) (x5 : Int32), K17 μ x1 x2 x3 x4 x5 = some μ1 → G p l e { frames := 5, cells := 0, slots := 0, locals := 110 } s m args below meth c (MQ below (Qv (AC a) D (WC a cs μ1)) args s 0 0 (AC a)) D (AC a) 8 (WC a cs μ) 17 [(0, .ref (a 10)), (1, .int x1), (2, .int x2), (3, .int x3), (4, .int x4), (5, .int x5)] []) (μ : Mem) (x1 : Int32) (x2 : Int32) (x3 : Int32) (x4 : Int32) (x5 : Int32) (x6 : Int32) (hF : F_P_countOrders_41 K17 μ x1 x2 x3 x4 x5 x6 = some μ1) : G p l e { frames := 5, cells := 0, slots := 0, locals := 110 } s m args below meth c (MQ below (Qv (AC a) D (WC a cs μ1)) args s 0 0 (AC a)) D (AC a) 8 (WC a cs μ) 41 [(0, .ref (a 10)), (1, .int x1), (2, .int x2), (3, .int x3), (4, .int x4), (5, .int x5), (6, .int x6)] [] := by
  unfold F_P_countOrders_41 at hF
  refine g_iload (pc1 := 43) C d_P_countOrders_41 rfl 5 rfl ?_
  refine g_iload (pc1 := 45) C d_P_countOrders_43 rfl 4 rfl ?_
  refine g_icmp_ne (pc1 := 48) C 52 d_P_countOrders_45 rfl (by decide) (fun c1 => ?_) (fun c1 => ?_)
  · replace hF := ite_f hF c1
    refine g_iconst (pc1 := 53) (v := (0 : Int32)) C d_P_countOrders_52 rfl ic_0 ?_
    exact g_sub [0, 1, 2, 3, 4, 5, 6] rfl (p_P_countOrders_53 C hK hr hlk K17 hK17 μ x1 x2 x3 x4 x5 x6 (0 : Int32) hF)
  · replace hF := ite_t hF c1
    exact g_sub [0, 1, 2, 3, 4, 5, 6] rfl (p_P_countOrders_48 C hK hr hlk K17 hK17 μ x1 x2 x3 x4 x5 x6 hF)
set_option maxHeartbeats 4000000 in
set_option maxRecDepth 100000 in
theorem p_P_countOrders_17 {p : Program} {l : Launch} {e : Env} {s : State} {m : MethodId} {args : Array Value} {below : List Frame} {meth : Method} {c : Code} {D : va_G} {cs : Nat → ClassId} {a : Nat → Nat} {μ1 : Mem} (C : Cx p s m args c b_P_countOrders 8 "TentPegs$Plans") (hK : va_K D classes (tys cs) s) (hr : meth.sig.returnType = none) (hlk : meth.locks = false)  : ∀ (μ : Mem) (x1 : Int32) (x2 : Int32) (x3 : Int32) (x4 : Int32) (x5 : Int32), F_P_countOrders_17  μ x1 x2 x3 x4 x5 = some μ1 → G p l e { frames := 5, cells := 0, slots := 0, locals := 110 } s m args below meth c (MQ below (Qv (AC a) D (WC a cs μ1)) args s 0 0 (AC a)) D (AC a) 8 (WC a cs μ) 17 [(0, .ref (a 10)), (1, .int x1), (2, .int x2), (3, .int x3), (4, .int x4), (5, .int x5)] [] := by
  refine iter_ind (fun (K17 : Mem → Int32 → Int32 → Int32 → Int32 → Int32 → Option Mem) => ∀ (μ : Mem) (x1 : Int32) (x2 : Int32) (x3 : Int32) (x4 : Int32) (x5 : Int32), K17 μ x1 x2 x3 x4 x5 = some μ1 → G p l e { frames := 5, cells := 0, slots := 0, locals := 110 } s m args below meth c (MQ below (Qv (AC a) D (WC a cs μ1)) args s 0 0 (AC a)) D (AC a) 8 (WC a cs μ) 17 [(0, .ref (a 10)), (1, .int x1), (2, .int x2), (3, .int x3), (4, .int x4), (5, .int x5)] []) ?_ ?_ NF
  · intro μ x1 x2 x3 x4 x5 hF
    exact none_no hF
  · intro K17 hK17 μ x1 x2 x3 x4 x5 hF
    unfold S_P_countOrders_17 at hF
    refine g_iload (pc1 := 19) C d_P_countOrders_17 rfl 5 rfl ?_
    refine g_if_lt (pc1 := 22) C 128 d_P_countOrders_19 rfl (by decide) (fun c1 => ?_) (fun c1 => ?_)
    · replace hF := ite_t hF c1
      exact g_vret C hr hlk d_P_countOrders_128 (congrArg (WC a cs) (Option.some.inj hF))
    · replace hF := ite_f hF c1
      refine g_iload (pc1 := 24) C d_P_countOrders_22 rfl 5 rfl ?_
      obtain ⟨r1, hr1, hF⟩ := bnd_some hF
      refine g_callSI (pc1 := 27) (As := [.int x5]) (rest := []) C 1 (c_JI_bitCount l x5 r1 hr1) s_JI_bitCount kw_101 rfl ⟨Nat.le_of_ble_eq_true rfl, Nat.le_of_ble_eq_true rfl⟩ ⟨rfl, rfl⟩ d_P_countOrders_24 rfl rfl (Nat.le_of_ble_eq_true rfl) ?_
      refine g_istore (pc1 := 29) (L1 := [(6, .int r1), (0, .ref (a 10)), (1, .int x1), (2, .int x2), (3, .int x3), (4, .int x4), (5, .int x5)]) C d_P_countOrders_27 rfl (by decide) rfl ?_
      refine g_iload (pc1 := 31) C d_P_countOrders_29 rfl 0 rfl ?_
      refine g_if_le (pc1 := 34) C 41 d_P_countOrders_31 rfl (by decide) (fun c1 => ?_) (fun c1 => ?_)
      · replace hF := ite_t hF c1
        exact g_sub [1, 2, 3, 4, 5, 6, 0] rfl (p_P_countOrders_41 C hK hr hlk K17 hK17 μ x1 x2 x3 x4 x5 r1 hF)
      · replace hF := ite_f hF c1
        refine g_iload (pc1 := 36) C d_P_countOrders_34 rfl 0 rfl ?_
        refine g_iload_n (pc1 := 37) C d_P_countOrders_36 rfl rfl 2 rfl ?_
        by_cases h0 : x1 = 0
        · exact none_no (ite_t hF h0)
        replace hF := ite_f hF h0
        refine g_irem (pc1 := 38) C d_P_countOrders_37 rfl h0 ?_
        refine g_if_eq (pc1 := 41) C 48 d_P_countOrders_38 rfl (by decide) (fun c1 => ?_) (fun c1 => ?_)
        · replace hF := ite_t hF c1
          exact g_sub [1, 2, 3, 4, 5, 6, 0] rfl (p_P_countOrders_48 C hK hr hlk K17 hK17 μ x1 x2 x3 x4 x5 r1 hF)
        · replace hF := ite_f hF c1
          exact g_sub [1, 2, 3, 4, 5, 6, 0] rfl (p_P_countOrders_41 C hK hr hlk K17 hK17 μ x1 x2 x3 x4 x5 r1 hF)
set_option maxHeartbeats 4000000 in
set_option maxRecDepth 100000 in
theorem c_P_countOrders (l : Launch) (D : va_G) (cs : Nat → ClassId) (a : Nat → Nat) (μ : Mem) (x1 : Int32) (x2 : Int32) (x3 : Int32) (μ1 : Mem) (hF : F_P_countOrders μ x1 x2 x3 = some μ1) : MetV l y_P_countOrders b_P_countOrders 8 none { frames := 5, cells := 0, slots := 0, locals := 110 } D cs (AC a) (WC a cs μ) [.ref (a 10), .int x1, .int x2, .int x3] (WC a cs μ1) := by
  refine met_of rfl (by decide +kernel) (Nat.le_of_ble_eq_true rfl) (fun p e s m below meth c C hK hr hlk => ?_)
  unfold F_P_countOrders at hF
  show G p l e { frames := 5, cells := 0, slots := 0, locals := 110 } s m _ below meth c _ D (AC a) 8 (WC a cs μ) 0 [(0, .ref (a 10)), (1, .int x1), (2, .int x2), (3, .int x3)] []
  refine g_iconst (pc1 := 1) (v := (1 : Int32)) C d_P_countOrders_0 rfl ic_1 ?_
  refine g_aload_n (pc1 := 2) C d_P_countOrders_1 rfl rfl 0 rfl ?_
  refine get_WC_10_field (pc1 := 5) C hK kw_99 d_P_countOrders_2 rfl ?_
  refine get_WC_1_pegs (pc1 := 8) C hK (v := (μ.1 1 0)) rfl kw_100 d_P_countOrders_5 rfl ?_
  refine g_ishl (pc1 := 9) C d_P_countOrders_8 rfl ?_
  refine g_iconst (pc1 := 10) (v := (1 : Int32)) C d_P_countOrders_9 rfl ic_1 ?_
  refine g_isub (pc1 := 11) C d_P_countOrders_10 rfl ?_
  refine g_istore (pc1 := 13) (L1 := [(4, .int (((1 : Int32) <<< ((μ.1 1 0) &&& 31)) - (1 : Int32))), (0, .ref (a 10)), (1, .int x1), (2, .int x2), (3, .int x3)]) C d_P_countOrders_11 rfl (by decide) rfl ?_
  refine g_iload (pc1 := 15) C d_P_countOrders_13 rfl 0 rfl ?_
  refine g_istore (pc1 := 17) (L1 := [(5, .int (((1 : Int32) <<< ((μ.1 1 0) &&& 31)) - (1 : Int32))), (4, .int (((1 : Int32) <<< ((μ.1 1 0) &&& 31)) - (1 : Int32))), (0, .ref (a 10)), (1, .int x1), (2, .int x2), (3, .int x3)]) C d_P_countOrders_15 rfl (by decide) rfl ?_
  exact g_sub [2, 3, 4, 5, 1, 0] rfl (p_P_countOrders_17 C hK hr hlk  μ x1 x2 x3 (((1 : Int32) <<< ((μ.1 1 0) &&& 31)) - (1 : Int32)) (((1 : Int32) <<< ((μ.1 1 0) &&& 31)) - (1 : Int32)) hF)
-- TentPegs$Plans.ordersFrom(I)I
set_option maxHeartbeats 4000000 in
set_option maxRecDepth 100000 in
theorem c_P_ordersFrom (l : Launch) (D : va_G) (cs : Nat → ClassId) (a : Nat → Nat) (μ : Mem) (x1 : Int32) (r : Int32) (hF : F_P_ordersFrom μ x1 = some r) : MetI l y_P_ordersFrom b_P_ordersFrom 2 (some .int) { frames := 0, cells := 0, slots := 0, locals := 0 } D cs (AC a) (WC a cs μ) [.ref (a 10), .int x1] r (WC a cs μ) := by
  refine met_of rfl (by decide +kernel) (Nat.le_of_ble_eq_true rfl) (fun p e s m below meth c C hK hr hlk => ?_)
  unfold F_P_ordersFrom at hF
  show G p l e { frames := 0, cells := 0, slots := 0, locals := 0 } s m _ below meth c _ D (AC a) 2 (WC a cs μ) 0 [(0, .ref (a 10)), (1, .int x1)] []
  refine g_aload_n (pc1 := 1) C d_P_ordersFrom_0 rfl rfl 0 rfl ?_
  refine get_WC_10_orders (pc1 := 4) C hK kw_130 d_P_ordersFrom_1 rfl ?_
  refine g_iload_n (pc1 := 5) C d_P_ordersFrom_4 rfl rfl 1 rfl ?_
  have hg := gd_some hF
  replace hF := hg.2
  refine g_iald (pc1 := 6) C hK 11 (f := (μ.1 11)) rfl hg.1 d_P_ordersFrom_5 rfl ?_
  exact g_iret C hr hlk d_P_ordersFrom_6 (Option.some.inj hF) rfl
-- TentPegs$Plans.leastThatMayFollow(I)I
set_option maxHeartbeats 4000000 in
set_option maxRecDepth 100000 in
theorem p_P_leastThatMayFollow_2 {p : Program} {l : Launch} {e : Env} {s : State} {m : MethodId} {args : Array Value} {below : List Frame} {meth : Method} {c : Code} {D : va_G} {cs : Nat → ClassId} {a : Nat → Nat} {μ : Mem} {r : Int32} (C : Cx p s m args c b_P_leastThatMayFollow 3 "TentPegs$Plans") (hK : va_K D classes (tys cs) s) (hr : meth.sig.returnType = (some .int)) (hlk : meth.locks = false)  : ∀ (x1 : Int32) (x2 : Int32), F_P_leastThatMayFollow_2  μ x1 x2 = some r → G p l e { frames := 1, cells := 0, slots := 0, locals := 21 } s m args below meth c (MQ below (Qi (AC a) D (WC a cs μ) r) args s 0 0 (AC a)) D (AC a) 3 (WC a cs μ) 2 [(0, .ref (a 10)), (1, .int x1), (2, .int x2)] [] := by
  refine iter_ind (fun (K2 : Mem → Int32 → Int32 → Option Int32) => ∀ (x1 : Int32) (x2 : Int32), K2 μ x1 x2 = some r → G p l e { frames := 1, cells := 0, slots := 0, locals := 21 } s m args below meth c (MQ below (Qi (AC a) D (WC a cs μ) r) args s 0 0 (AC a)) D (AC a) 3 (WC a cs μ) 2 [(0, .ref (a 10)), (1, .int x1), (2, .int x2)] []) ?_ ?_ NF
  · intro x1 x2 hF
    exact none_no hF
  · intro K2 hK2 x1 x2 hF
    unfold S_P_leastThatMayFollow_2 at hF
    refine g_iload_n (pc1 := 3) C d_P_leastThatMayFollow_2 rfl rfl 2 rfl ?_
    refine g_aload_n (pc1 := 4) C d_P_leastThatMayFollow_3 rfl rfl 0 rfl ?_
    refine get_WC_10_field (pc1 := 7) C hK kw_99 d_P_leastThatMayFollow_4 rfl ?_
    refine get_WC_1_pegs (pc1 := 10) C hK (v := (μ.1 1 0)) rfl kw_100 d_P_leastThatMayFollow_7 rfl ?_
    refine g_icmp_ge (pc1 := 13) C 42 d_P_leastThatMayFollow_10 rfl (by decide) (fun c1 => ?_) (fun c1 => ?_)
    · replace hF := ite_t hF c1
      refine g_iconst (pc1 := 43) (v := (-1 : Int32)) C d_P_leastThatMayFollow_42 rfl ic_m1 ?_
      exact g_iret C hr hlk d_P_leastThatMayFollow_43 (Option.some.inj hF) rfl
    · replace hF := ite_f hF c1
      refine g_iload_n (pc1 := 14) C d_P_leastThatMayFollow_13 rfl rfl 1 rfl ?_
      refine g_iload_n (pc1 := 15) C d_P_leastThatMayFollow_14 rfl rfl 2 rfl ?_
      obtain ⟨r1, hr1, hF⟩ := bnd_some hF
      refine g_callNI (pc1 := 18) (As := [.int x1, .int x2]) (rest := []) C 2 (c_T_has l x1 x2 r1 hr1) s_T_has 10 rfl rfl ⟨Nat.le_of_ble_eq_true rfl, Nat.le_of_ble_eq_true rfl⟩ ⟨rfl, rfl⟩ d_P_leastThatMayFollow_15 rfl rfl (Nat.le_of_ble_eq_true rfl) ?_
      refine g_if_ne (pc1 := 21) C 36 d_P_leastThatMayFollow_18 rfl (by decide) (fun c1 => ?_) (fun c1 => ?_)
      · replace hF := ite_f hF c1
        refine g_iinc (pc1 := 39) (v := (x2 + (1 : Int32))) (L1 := [(2, .int (x2 + (1 : Int32))), (0, .ref (a 10)), (1, .int x1)]) C d_P_leastThatMayFollow_36 rfl 2 rfl (by rw [ic_1]) (by decide) rfl ?_
        refine g_goto C 2 d_P_leastThatMayFollow_39 (by decide) ?_
        exact g_sub [1, 2, 0] rfl (hK2 x1 (x2 + (1 : Int32)) hF)
      · replace hF := ite_t hF c1
        refine g_aload_n (pc1 := 22) C d_P_leastThatMayFollow_21 rfl rfl 0 rfl ?_
        refine get_WC_10_orders (pc1 := 25) C hK kw_130 d_P_leastThatMayFollow_22 rfl ?_
        refine g_iload_n (pc1 := 26) C d_P_leastThatMayFollow_25 rfl rfl 1 rfl ?_
        refine g_iconst (pc1 := 27) (v := (1 : Int32)) C d_P_leastThatMayFollow_26 rfl ic_1 ?_
        refine g_iload_n (pc1 := 28) C d_P_leastThatMayFollow_27 rfl rfl 2 rfl ?_
        refine g_ishl (pc1 := 29) C d_P_leastThatMayFollow_28 rfl ?_
        refine g_ior (pc1 := 30) C d_P_leastThatMayFollow_29 rfl ?_
        have hg := gd_some hF
        replace hF := hg.2
        refine g_iald (pc1 := 31) C hK 11 (f := (μ.1 11)) rfl hg.1 d_P_leastThatMayFollow_30 rfl ?_
        refine g_if_le (pc1 := 34) C 36 d_P_leastThatMayFollow_31 rfl (by decide) (fun c1 => ?_) (fun c1 => ?_)
        · replace hF := ite_t hF c1
          refine g_iinc (pc1 := 39) (v := (x2 + (1 : Int32))) (L1 := [(2, .int (x2 + (1 : Int32))), (0, .ref (a 10)), (1, .int x1)]) C d_P_leastThatMayFollow_36 rfl 2 rfl (by rw [ic_1]) (by decide) rfl ?_
          refine g_goto C 2 d_P_leastThatMayFollow_39 (by decide) ?_
          exact g_sub [1, 2, 0] rfl (hK2 x1 (x2 + (1 : Int32)) hF)
        · replace hF := ite_f hF c1
          refine g_iload_n (pc1 := 35) C d_P_leastThatMayFollow_34 rfl rfl 2 rfl ?_
          exact g_iret C hr hlk d_P_leastThatMayFollow_35 (Option.some.inj hF) rfl
set_option maxHeartbeats 4000000 in
set_option maxRecDepth 100000 in
theorem c_P_leastThatMayFollow (l : Launch) (D : va_G) (cs : Nat → ClassId) (a : Nat → Nat) (μ : Mem) (x1 : Int32) (r : Int32) (hF : F_P_leastThatMayFollow μ x1 = some r) : MetI l y_P_leastThatMayFollow b_P_leastThatMayFollow 3 (some .int) { frames := 1, cells := 0, slots := 0, locals := 21 } D cs (AC a) (WC a cs μ) [.ref (a 10), .int x1] r (WC a cs μ) := by
  refine met_of rfl (by decide +kernel) (Nat.le_of_ble_eq_true rfl) (fun p e s m below meth c C hK hr hlk => ?_)
  unfold F_P_leastThatMayFollow at hF
  show G p l e { frames := 1, cells := 0, slots := 0, locals := 21 } s m _ below meth c _ D (AC a) 3 (WC a cs μ) 0 [(0, .ref (a 10)), (1, .int x1)] []
  refine g_iconst (pc1 := 1) (v := (0 : Int32)) C d_P_leastThatMayFollow_0 rfl ic_0 ?_
  refine g_istore_n (pc1 := 2) (L1 := [(2, .int (0 : Int32)), (0, .ref (a 10)), (1, .int x1)]) C d_P_leastThatMayFollow_1 rfl rfl (by decide) rfl ?_
  exact g_sub [1, 2, 0] rfl (p_P_leastThatMayFollow_2 C hK hr hlk  x1 (0 : Int32) hF)
-- TentPegs$Plans.inFirstOrder(I)I
set_option maxHeartbeats 4000000 in
set_option maxRecDepth 100000 in
theorem p_P_inFirstOrder_7 {p : Program} {l : Launch} {e : Env} {s : State} {m : MethodId} {args : Array Value} {below : List Frame} {meth : Method} {c : Code} {D : va_G} {cs : Nat → ClassId} {a : Nat → Nat} {μ : Mem} {r : Int32} (C : Cx p s m args c b_P_inFirstOrder 5 "TentPegs$Plans") (hK : va_K D classes (tys cs) s) (hr : meth.sig.returnType = (some .int)) (hlk : meth.locks = false)  : ∀ (x1 : Int32) (x2 : Int32) (x3 : Int32) (x4 : Int32), F_P_inFirstOrder_7  μ x1 x2 x3 x4 = some r → G p l e { frames := 2, cells := 0, slots := 0, locals := 43 } s m args below meth c (MQ below (Qi (AC a) D (WC a cs μ) r) args s 0 0 (AC a)) D (AC a) 5 (WC a cs μ) 7 [(0, .ref (a 10)), (1, .int x1), (2, .int x2), (3, .int x3), (4, .int x4)] [] := by
  refine iter_ind (fun (K7 : Mem → Int32 → Int32 → Int32 → Int32 → Option Int32) => ∀ (x1 : Int32) (x2 : Int32) (x3 : Int32) (x4 : Int32), K7 μ x1 x2 x3 x4 = some r → G p l e { frames := 2, cells := 0, slots := 0, locals := 43 } s m args below meth c (MQ below (Qi (AC a) D (WC a cs μ) r) args s 0 0 (AC a)) D (AC a) 5 (WC a cs μ) 7 [(0, .ref (a 10)), (1, .int x1), (2, .int x2), (3, .int x3), (4, .int x4)] []) ?_ ?_ NF
  · intro x1 x2 x3 x4 hF
    exact none_no hF
  · intro K7 hK7 x1 x2 x3 x4 hF
    unfold S_P_inFirstOrder_7 at hF
    refine g_iload (pc1 := 9) C d_P_inFirstOrder_7 rfl 4 rfl ?_
    refine g_iload_n (pc1 := 10) C d_P_inFirstOrder_9 rfl rfl 1 rfl ?_
    refine g_icmp_gt (pc1 := 13) C 50 d_P_inFirstOrder_10 rfl (by decide) (fun c1 => ?_) (fun c1 => ?_)
    · replace hF := ite_t hF c1
      refine g_iload_n (pc1 := 51) C d_P_inFirstOrder_50 rfl rfl 3 rfl ?_
      exact g_iret C hr hlk d_P_inFirstOrder_51 (Option.some.inj hF) rfl
    · replace hF := ite_f hF c1
      refine g_iload (pc1 := 15) C d_P_inFirstOrder_13 rfl 4 rfl ?_
      refine g_aload_n (pc1 := 16) C d_P_inFirstOrder_15 rfl rfl 0 rfl ?_
      refine get_WC_10_field (pc1 := 19) C hK kw_99 d_P_inFirstOrder_16 rfl ?_
      refine get_WC_1_pegs (pc1 := 22) C hK (v := (μ.1 1 0)) rfl kw_100 d_P_inFirstOrder_19 rfl ?_
      refine g_icmp_ge (pc1 := 25) C 50 d_P_inFirstOrder_22 rfl (by decide) (fun c1 => ?_) (fun c1 => ?_)
      · replace hF := ite_t hF c1
        refine g_iload_n (pc1 := 51) C d_P_inFirstOrder_50 rfl rfl 3 rfl ?_
        exact g_iret C hr hlk d_P_inFirstOrder_51 (Option.some.inj hF) rfl
      · replace hF := ite_f hF c1
        refine g_aload_n (pc1 := 26) C d_P_inFirstOrder_25 rfl rfl 0 rfl ?_
        refine g_iload_n (pc1 := 27) C d_P_inFirstOrder_26 rfl rfl 2 rfl ?_
        obtain ⟨r1, hr1, hF⟩ := bnd_some hF
        refine g_callVI (pc1 := 30) (ws1 := WC a cs μ) (As := [.int x2]) (rest := []) (b := a 10) C hK 1 (c_P_leastThatMayFollow l D cs a μ x2 r1 hr1) s_P_leastThatMayFollow kw_133 10 rfl rfl rfl ⟨Nat.le_of_ble_eq_true rfl, Nat.le_of_ble_eq_true rfl⟩ ⟨rfl, rfl⟩ d_P_inFirstOrder_27 rfl rfl (Nat.le_of_ble_eq_true rfl) ?_
        refine g_istore_n (pc1 := 31) (L1 := [(3, .int r1), (0, .ref (a 10)), (1, .int x1), (2, .int x2), (4, .int x4)]) C d_P_inFirstOrder_30 rfl rfl (by decide) rfl ?_
        refine g_iload_n (pc1 := 32) C d_P_inFirstOrder_31 rfl rfl 0 rfl ?_
        refine g_iconst (pc1 := 33) (v := (-1 : Int32)) C d_P_inFirstOrder_32 rfl ic_m1 ?_
        refine g_icmp_ne (pc1 := 36) C 38 d_P_inFirstOrder_33 rfl (by decide) (fun c1 => ?_) (fun c1 => ?_)
        · replace hF := ite_f hF c1
          refine g_iload_n (pc1 := 39) C d_P_inFirstOrder_38 rfl rfl 3 rfl ?_
          refine g_iconst (pc1 := 40) (v := (1 : Int32)) C d_P_inFirstOrder_39 rfl ic_1 ?_
          refine g_iload_n (pc1 := 41) C d_P_inFirstOrder_40 rfl rfl 0 rfl ?_
          refine g_ishl (pc1 := 42) C d_P_inFirstOrder_41 rfl ?_
          refine g_ior (pc1 := 43) C d_P_inFirstOrder_42 rfl ?_
          refine g_istore_n (pc1 := 44) (L1 := [(2, .int (x2 ||| ((1 : Int32) <<< (r1 &&& 31)))), (3, .int r1), (0, .ref (a 10)), (1, .int x1), (4, .int x4)]) C d_P_inFirstOrder_43 rfl rfl (by decide) rfl ?_
          refine g_iinc (pc1 := 47) (v := (x4 + (1 : Int32))) (L1 := [(4, .int (x4 + (1 : Int32))), (2, .int (x2 ||| ((1 : Int32) <<< (r1 &&& 31)))), (3, .int r1), (0, .ref (a 10)), (1, .int x1)]) C d_P_inFirstOrder_44 rfl 4 rfl (by rw [ic_1]) (by decide) rfl ?_
          refine g_goto C 7 d_P_inFirstOrder_47 (by decide) ?_
          exact g_sub [3, 4, 1, 2, 0] rfl (hK7 x1 (x2 ||| ((1 : Int32) <<< (r1 &&& 31))) r1 (x4 + (1 : Int32)) hF)
        · replace hF := ite_t hF c1
          refine g_iconst (pc1 := 37) (v := (-1 : Int32)) C d_P_inFirstOrder_36 rfl ic_m1 ?_
          exact g_iret C hr hlk d_P_inFirstOrder_37 (Option.some.inj hF) rfl
set_option maxHeartbeats 4000000 in
set_option maxRecDepth 100000 in
theorem c_P_inFirstOrder (l : Launch) (D : va_G) (cs : Nat → ClassId) (a : Nat → Nat) (μ : Mem) (x1 : Int32) (r : Int32) (hF : F_P_inFirstOrder μ x1 = some r) : MetI l y_P_inFirstOrder b_P_inFirstOrder 5 (some .int) { frames := 2, cells := 0, slots := 0, locals := 43 } D cs (AC a) (WC a cs μ) [.ref (a 10), .int x1] r (WC a cs μ) := by
  refine met_of rfl (by decide +kernel) (Nat.le_of_ble_eq_true rfl) (fun p e s m below meth c C hK hr hlk => ?_)
  unfold F_P_inFirstOrder at hF
  show G p l e { frames := 2, cells := 0, slots := 0, locals := 43 } s m _ below meth c _ D (AC a) 5 (WC a cs μ) 0 [(0, .ref (a 10)), (1, .int x1)] []
  refine g_iconst (pc1 := 1) (v := (0 : Int32)) C d_P_inFirstOrder_0 rfl ic_0 ?_
  refine g_istore_n (pc1 := 2) (L1 := [(2, .int (0 : Int32)), (0, .ref (a 10)), (1, .int x1)]) C d_P_inFirstOrder_1 rfl rfl (by decide) rfl ?_
  refine g_iconst (pc1 := 3) (v := (-1 : Int32)) C d_P_inFirstOrder_2 rfl ic_m1 ?_
  refine g_istore_n (pc1 := 4) (L1 := [(3, .int (-1 : Int32)), (2, .int (0 : Int32)), (0, .ref (a 10)), (1, .int x1)]) C d_P_inFirstOrder_3 rfl rfl (by decide) rfl ?_
  refine g_iconst (pc1 := 5) (v := (0 : Int32)) C d_P_inFirstOrder_4 rfl ic_0 ?_
  refine g_istore (pc1 := 7) (L1 := [(4, .int (0 : Int32)), (3, .int (-1 : Int32)), (2, .int (0 : Int32)), (0, .ref (a 10)), (1, .int x1)]) C d_P_inFirstOrder_5 rfl (by decide) rfl ?_
  exact g_sub [3, 4, 2, 1, 0] rfl (p_P_inFirstOrder_7 C hK hr hlk  x1 (0 : Int32) (-1 : Int32) (0 : Int32) hF)
-- TentPegs.setUp(IIII)I
set_option maxHeartbeats 4000000 in
set_option maxRecDepth 100000 in
theorem p_T_setUp_23 {p : Program} {l : Launch} {e : Env} {s : State} {m : MethodId} {args : Array Value} {below : List Frame} {meth : Method} {c : Code} {D : va_G} {cs : Nat → ClassId} {a : Nat → Nat} {r : Int32} {μ1 : Mem} (C : Cx p s m args c b_T_setUp 6 "TentPegs") (hK : va_K D classes (tys cs) s) (hr : meth.sig.returnType = (some .int)) (hlk : meth.locks = false)  (μ : Mem)  (hF : F_T_setUp_23  μ = some (r, μ1)) : G p l e { frames := 6, cells := 0, slots := 0, locals := 137 } s m args below meth c (MQ below (Qi (AC a) D (WC a cs μ1) r) args s 0 0 (AC a)) D (AC a) 6 (WC a cs μ) 23 [(0, .ref (a 0))] [] := by
  unfold F_T_setUp_23 at hF
  refine g_aload_n (pc1 := 24) C d_T_setUp_23 rfl rfl 0 rfl ?_
  refine g_bipush (pc1 := 26) (v := (-10 : Int32)) C d_T_setUp_24 rfl bp_m10 ?_
  obtain ⟨⟨r1, m1⟩, hm1, hF⟩ := bnd_some hF
  refine g_callVI (pc1 := 29) (ws1 := WC a cs m1) (As := [.int (-10 : Int32)]) (rest := []) (b := a 0) C hK 1 (c_T_bad l D cs a μ (-10 : Int32) r1 m1 hm1) s_T_bad kw_15 0 rfl rfl rfl ⟨Nat.le_of_ble_eq_true rfl, Nat.le_of_ble_eq_true rfl⟩ ⟨rfl, rfl⟩ d_T_setUp_26 rfl rfl (Nat.le_of_ble_eq_true rfl) ?_
  exact g_iret C hr hlk d_T_setUp_29 (fst_of hF) (congrArg (WC a cs) (snd_of hF))
set_option maxHeartbeats 4000000 in
set_option maxRecDepth 100000 in
theorem c_T_setUp (l : Launch) (D : va_G) (cs : Nat → ClassId) (a : Nat → Nat) (μ : Mem) (x1 : Int32) (x2 : Int32) (x3 : Int32) (x4 : Int32) (r : Int32) (μ1 : Mem) (hF : F_T_setUp μ x1 x2 x3 x4 = some (r, μ1)) : MetI l y_T_setUp b_T_setUp 6 (some .int) { frames := 6, cells := 0, slots := 0, locals := 137 } D cs (AC a) (WC a cs μ) [.ref (a 0), .int x1, .int x2, .int x3, .int x4] r (WC a cs μ1) := by
  refine met_of rfl (by decide +kernel) (Nat.le_of_ble_eq_true rfl) (fun p e s m below meth c C hK hr hlk => ?_)
  unfold F_T_setUp at hF
  show G p l e { frames := 6, cells := 0, slots := 0, locals := 137 } s m _ below meth c _ D (AC a) 6 (WC a cs μ) 0 [(0, .ref (a 0)), (1, .int x1), (2, .int x2), (3, .int x3), (4, .int x4)] []
  refine g_iload_n (pc1 := 1) C d_T_setUp_0 rfl rfl 1 rfl ?_
  refine g_iconst (pc1 := 2) (v := (1 : Int32)) C d_T_setUp_1 rfl ic_1 ?_
  refine g_iconst (pc1 := 3) (v := (4 : Int32)) C d_T_setUp_2 rfl ic_4 ?_
  obtain ⟨r1, hr1, hF⟩ := bnd_some hF
  refine g_callSI (pc1 := 6) (As := [.int x1, .int (1 : Int32), .int (4 : Int32)]) (rest := []) C 3 (c_T_within l x1 (1 : Int32) (4 : Int32) r1 hr1) s_T_within kw_22 rfl ⟨Nat.le_of_ble_eq_true rfl, Nat.le_of_ble_eq_true rfl⟩ ⟨rfl, rfl⟩ d_T_setUp_3 rfl rfl (Nat.le_of_ble_eq_true rfl) ?_
  refine g_if_eq (pc1 := 9) C 23 d_T_setUp_6 rfl (by decide) (fun c1 => ?_) (fun c1 => ?_)
  · replace hF := ite_t hF c1
    exact g_sub [0] rfl (p_T_setUp_23 C hK hr hlk  μ hF)
  · replace hF := ite_f hF c1
    refine g_iload_n (pc1 := 10) C d_T_setUp_9 rfl rfl 2 rfl ?_
    refine g_iload_n (pc1 := 11) C d_T_setUp_10 rfl rfl 3 rfl ?_
    obtain ⟨r2, hr2, hF⟩ := bnd_some hF
    refine g_callSI (pc1 := 14) (As := [.int x2, .int x3]) (rest := []) C 2 (c_T_isGust l x2 x3 r2 hr2) s_T_isGust kw_77 rfl ⟨Nat.le_of_ble_eq_true rfl, Nat.le_of_ble_eq_true rfl⟩ ⟨rfl, rfl⟩ d_T_setUp_11 rfl rfl (Nat.le_of_ble_eq_true rfl) ?_
    refine g_if_eq (pc1 := 17) C 23 d_T_setUp_14 rfl (by decide) (fun c1 => ?_) (fun c1 => ?_)
    · replace hF := ite_t hF c1
      exact g_sub [0] rfl (p_T_setUp_23 C hK hr hlk  μ hF)
    · replace hF := ite_f hF c1
      refine g_iload (pc1 := 19) C d_T_setUp_17 rfl 4 rfl ?_
      refine g_iconst (pc1 := 20) (v := (-1 : Int32)) C d_T_setUp_19 rfl ic_m1 ?_
      refine g_icmp_ge (pc1 := 23) C 30 d_T_setUp_20 rfl (by decide) (fun c1 => ?_) (fun c1 => ?_)
      · replace hF := ite_t hF c1
        refine g_aload_n (pc1 := 31) C d_T_setUp_30 rfl rfl 0 rfl ?_
        obtain ⟨m3, hm3, hF⟩ := bnd_some hF
        refine g_callVR (pc1 := 34) (ws1 := WC a cs m3) (As := []) (rest := []) (b := a 0) C hK 0 (c_T_asItIs l D cs a μ  m3 hm3) s_T_asItIs kw_81 0 rfl rfl rfl ⟨Nat.le_of_ble_eq_true rfl, Nat.le_of_ble_eq_true rfl⟩ ⟨rfl, rfl⟩ d_T_setUp_31 rfl rfl (Nat.le_of_ble_eq_true rfl) ?_
        refine g_pop (pc1 := 35) C d_T_setUp_34 rfl rfl ?_
        refine g_aload_n (pc1 := 36) C d_T_setUp_35 rfl rfl 0 rfl ?_
        refine get_WC_0_plans (pc1 := 39) C hK kw_107 d_T_setUp_36 rfl ?_
        refine g_iload_n (pc1 := 40) C d_T_setUp_39 rfl rfl 1 rfl ?_
        refine g_iload_n (pc1 := 41) C d_T_setUp_40 rfl rfl 2 rfl ?_
        refine g_iload_n (pc1 := 42) C d_T_setUp_41 rfl rfl 3 rfl ?_
        obtain ⟨m4, hm4, hF⟩ := bnd_some hF
        refine g_callVV (pc1 := 45) (ws1 := WC a cs m4) (As := [.int x1, .int x2, .int x3]) (rest := []) (b := a 10) C hK 3 (c_P_countOrders l D cs a m3 x1 x2 x3 m4 hm4) s_P_countOrders kw_134 10 rfl rfl rfl ⟨Nat.le_of_ble_eq_true rfl, Nat.le_of_ble_eq_true rfl⟩ ⟨rfl, rfl⟩ d_T_setUp_42 rfl rfl (Nat.le_of_ble_eq_true rfl) ?_
        refine g_aload_n (pc1 := 46) C d_T_setUp_45 rfl rfl 0 rfl ?_
        refine get_WC_0_plans (pc1 := 49) C hK kw_107 d_T_setUp_46 rfl ?_
        refine g_iconst (pc1 := 50) (v := (0 : Int32)) C d_T_setUp_49 rfl ic_0 ?_
        obtain ⟨r5, hr5, hF⟩ := bnd_some hF
        refine g_callVI (pc1 := 53) (ws1 := WC a cs m4) (As := [.int (0 : Int32)]) (rest := []) (b := a 10) C hK 1 (c_P_ordersFrom l D cs a m4 (0 : Int32) r5 hr5) s_P_ordersFrom kw_135 10 rfl rfl rfl ⟨Nat.le_of_ble_eq_true rfl, Nat.le_of_ble_eq_true rfl⟩ ⟨rfl, rfl⟩ d_T_setUp_50 rfl rfl (Nat.le_of_ble_eq_true rfl) ?_
        refine g_istore (pc1 := 55) (L1 := [(5, .int r5), (0, .ref (a 0)), (1, .int x1), (2, .int x2), (3, .int x3), (4, .int x4)]) C d_T_setUp_53 rfl (by decide) rfl ?_
        refine g_iload (pc1 := 57) C d_T_setUp_55 rfl 5 rfl ?_
        refine g_iconst (pc1 := 58) (v := (-1 : Int32)) C d_T_setUp_57 rfl ic_m1 ?_
        refine g_icmp_ne (pc1 := 61) C 64 d_T_setUp_58 rfl (by decide) (fun c1 => ?_) (fun c1 => ?_)
        · replace hF := ite_f hF c1
          refine g_iload (pc1 := 66) C d_T_setUp_64 rfl 0 rfl ?_
          refine g_if_ne (pc1 := 69) C 71 d_T_setUp_66 rfl (by decide) (fun c1 => ?_) (fun c1 => ?_)
          · replace hF := ite_f hF c1
            refine g_iload (pc1 := 73) C d_T_setUp_71 rfl 5 rfl ?_
            refine g_aload_n (pc1 := 74) C d_T_setUp_73 rfl rfl 1 rfl ?_
            refine get_WC_0_field (pc1 := 77) C hK kw_12 d_T_setUp_74 rfl ?_
            refine get_WC_1_pegs (pc1 := 80) C hK (v := (m4.1 1 0)) rfl kw_13 d_T_setUp_77 rfl ?_
            refine g_icmp_ge (pc1 := 83) C 95 d_T_setUp_80 rfl (by decide) (fun c1 => ?_) (fun c1 => ?_)
            · replace hF := ite_t hF c1
              refine g_bipush (pc1 := 97) (v := (-5 : Int32)) C d_T_setUp_95 rfl bp_m5 ?_
              exact g_iret C hr hlk d_T_setUp_97 (fst_of hF) (congrArg (WC a cs) (snd_of hF))
            · replace hF := ite_f hF c1
              refine g_aload_n (pc1 := 84) C d_T_setUp_83 rfl rfl 1 rfl ?_
              refine get_WC_0_plans (pc1 := 87) C hK kw_107 d_T_setUp_84 rfl ?_
              refine g_iload (pc1 := 89) C d_T_setUp_87 rfl 5 rfl ?_
              obtain ⟨r6, hr6, hF⟩ := bnd_some hF
              refine g_callVI (pc1 := 92) (ws1 := WC a cs m4) (As := [.int x4]) (rest := []) (b := a 10) C hK 1 (c_P_inFirstOrder l D cs a m4 x4 r6 hr6) s_P_inFirstOrder kw_136 10 rfl rfl rfl ⟨Nat.le_of_ble_eq_true rfl, Nat.le_of_ble_eq_true rfl⟩ ⟨rfl, rfl⟩ d_T_setUp_89 rfl rfl (Nat.le_of_ble_eq_true rfl) ?_
              refine g_goto C 97 d_T_setUp_92 (by decide) ?_
              exact g_iret C hr hlk d_T_setUp_97 (fst_of hF) (congrArg (WC a cs) (snd_of hF))
          · replace hF := ite_t hF c1
            refine g_iconst (pc1 := 70) (v := (-1 : Int32)) C d_T_setUp_69 rfl ic_m1 ?_
            exact g_iret C hr hlk d_T_setUp_70 (fst_of hF) (congrArg (WC a cs) (snd_of hF))
        · replace hF := ite_t hF c1
          refine g_iload (pc1 := 63) C d_T_setUp_61 rfl 0 rfl ?_
          exact g_iret C hr hlk d_T_setUp_63 (fst_of hF) (congrArg (WC a cs) (snd_of hF))
      · replace hF := ite_f hF c1
        exact g_sub [0] rfl (p_T_setUp_23 C hK hr hlk  μ hF)
-- TentPegs$Plans.lookBack(I)V
set_option maxHeartbeats 4000000 in
set_option maxRecDepth 100000 in
theorem p_P_lookBack_97 {p : Program} {l : Launch} {e : Env} {s : State} {m : MethodId} {args : Array Value} {below : List Frame} {meth : Method} {c : Code} {D : va_G} {cs : Nat → ClassId} {a : Nat → Nat} {μ1 : Mem} (C : Cx p s m args c b_P_lookBack 5 "TentPegs$Plans") (hK : va_K D classes (tys cs) s) (hr : meth.sig.returnType = none) (hlk : meth.locks = false) (K24 : Mem → Int32 → Int32 → Option Mem) (hK24 : ∀ (μ : Mem) (x2 : Int32) (x3 : Int32), K24 μ x2 x3 = some μ1 → G p l e { frames := 6, cells := 0, slots := 0, locals := 135 } s m args below meth c (MQ below (Qv (AC a) D (WC a cs μ1)) args s 0 0 (AC a)) D (AC a) 5 (WC a cs μ) 24 [(0, .ref (a 10)), (2, .int x2), (3, .int x3)] []) (K33 : Mem → Int32 → Int32 → Int32 → Option Mem) (hK33 : ∀ (μ : Mem) (x2 : Int32) (x3 : Int32) (x4 : Int32), K33 μ x2 x3 x4 = some μ1 → G p l e { frames := 6, cells := 0, slots := 0, locals := 135 } s m args below meth c (MQ below (Qv (AC a) D (WC a cs μ1)) args s 0 0 (AC a)) D (AC a) 5 (WC a cs μ) 33 [(0, .ref (a 10)), (2, .int x2), (3, .int x3), (4, .int x4)] []) (μ : Mem) (x2 : Int32) (x3 : Int32) (x4 : Int32) (s0 : Int32) (hF : F_P_lookBack_97 K24 K33 μ x2 x3 x4 s0 = some μ1) : G p l e { frames := 6, cells := 0, slots := 0, locals := 135 } s m args below meth c (MQ below (Qv (AC a) D (WC a cs μ1)) args s 0 0 (AC a)) D (AC a) 5 (WC a cs μ) 97 [(0, .ref (a 10)), (2, .int x2), (3, .int x3), (4, .int x4)] [.int s0, .ref (a 10)] := by
  unfold F_P_lookBack_97 at hF
  refine put_WC_10_firstExplained (pc1 := 100) C hK kw_139 d_P_lookBack_97 rfl ?_
  refine g_aload_n (pc1 := 101) C d_P_lookBack_100 rfl rfl 0 rfl ?_
  refine g_dup (pc1 := 102) C d_P_lookBack_101 rfl rfl ?_
  refine get_WC_10_explained (pc1 := 105) C hK (v := (μ.1 10 4)) rfl kw_138 d_P_lookBack_102 rfl ?_
  refine g_iconst (pc1 := 106) (v := (1 : Int32)) C d_P_lookBack_105 rfl ic_1 ?_
  refine g_iadd (pc1 := 107) C d_P_lookBack_106 rfl ?_
  refine put_WC_10_explained (pc1 := 110) C hK kw_138 d_P_lookBack_107 rfl ?_
  refine g_iinc (pc1 := 113) (v := (x4 + (1 : Int32))) (L1 := [(4, .int (x4 + (1 : Int32))), (0, .ref (a 10)), (2, .int x2), (3, .int x3)]) C d_P_lookBack_110 rfl 3 rfl (by rw [ic_1]) (by decide) rfl ?_
  refine g_goto C 33 d_P_lookBack_113 (by decide) ?_
  exact g_sub [1, 2, 3, 0] rfl (hK33 (stI (stI μ 10 5 s0) 10 4 ((μ.1 10 4) + (1 : Int32))) x2 x3 (x4 + (1 : Int32)) hF)
set_option maxHeartbeats 4000000 in
set_option maxRecDepth 100000 in
theorem p_P_lookBack_33 {p : Program} {l : Launch} {e : Env} {s : State} {m : MethodId} {args : Array Value} {below : List Frame} {meth : Method} {c : Code} {D : va_G} {cs : Nat → ClassId} {a : Nat → Nat} {μ1 : Mem} (C : Cx p s m args c b_P_lookBack 5 "TentPegs$Plans") (hK : va_K D classes (tys cs) s) (hr : meth.sig.returnType = none) (hlk : meth.locks = false) (K24 : Mem → Int32 → Int32 → Option Mem) (hK24 : ∀ (μ : Mem) (x2 : Int32) (x3 : Int32), K24 μ x2 x3 = some μ1 → G p l e { frames := 6, cells := 0, slots := 0, locals := 135 } s m args below meth c (MQ below (Qv (AC a) D (WC a cs μ1)) args s 0 0 (AC a)) D (AC a) 5 (WC a cs μ) 24 [(0, .ref (a 10)), (2, .int x2), (3, .int x3)] []) : ∀ (μ : Mem) (x2 : Int32) (x3 : Int32) (x4 : Int32), F_P_lookBack_33 K24 μ x2 x3 x4 = some μ1 → G p l e { frames := 6, cells := 0, slots := 0, locals := 135 } s m args below meth c (MQ below (Qv (AC a) D (WC a cs μ1)) args s 0 0 (AC a)) D (AC a) 5 (WC a cs μ) 33 [(0, .ref (a 10)), (2, .int x2), (3, .int x3), (4, .int x4)] [] := by
  refine iter_ind (fun (K33 : Mem → Int32 → Int32 → Int32 → Option Mem) => ∀ (μ : Mem) (x2 : Int32) (x3 : Int32) (x4 : Int32), K33 μ x2 x3 x4 = some μ1 → G p l e { frames := 6, cells := 0, slots := 0, locals := 135 } s m args below meth c (MQ below (Qv (AC a) D (WC a cs μ1)) args s 0 0 (AC a)) D (AC a) 5 (WC a cs μ) 33 [(0, .ref (a 10)), (2, .int x2), (3, .int x3), (4, .int x4)] []) ?_ ?_ NF
  · intro μ x2 x3 x4 hF
    exact none_no hF
  · intro K33 hK33 μ x2 x3 x4 hF
    unfold S_P_lookBack_33 at hF
    refine g_iload (pc1 := 35) C d_P_lookBack_33 rfl 3 rfl ?_
    refine g_bipush (pc1 := 37) (v := (60 : Int32)) C d_P_lookBack_35 rfl bp_60 ?_
    refine g_icmp_gt (pc1 := 40) C 116 d_P_lookBack_37 rfl (by decide) (fun c1 => ?_) (fun c1 => ?_)
    · replace hF := ite_t hF c1
      refine g_iinc (pc1 := 119) (v := (x3 + (1 : Int32))) (L1 := [(3, .int (x3 + (1 : Int32))), (0, .ref (a 10)), (2, .int x2), (4, .int x4)]) C d_P_lookBack_116 rfl 2 rfl (by rw [ic_1]) (by decide) rfl ?_
      refine g_goto C 24 d_P_lookBack_119 (by decide) ?_
      exact g_sub [1, 2, 0] rfl (hK24 μ x2 (x3 + (1 : Int32)) hF)
    · replace hF := ite_f hF c1
      refine g_aload_n (pc1 := 41) C d_P_lookBack_40 rfl rfl 0 rfl ?_
      refine get_WC_10_gale (pc1 := 44) C hK kw_102 d_P_lookBack_41 rfl ?_
      refine g_aload_n (pc1 := 45) C d_P_lookBack_44 rfl rfl 0 rfl ?_
      refine get_WC_10_field (pc1 := 48) C hK kw_99 d_P_lookBack_45 rfl ?_
      refine get_WC_1_standing (pc1 := 51) C hK (v := (μ.1 1 3)) rfl kw_137 d_P_lookBack_48 rfl ?_
      refine put_WC_7_standing (pc1 := 54) C hK kw_103 d_P_lookBack_51 rfl ?_
      refine g_aload_n (pc1 := 55) C d_P_lookBack_54 rfl rfl 0 rfl ?_
      refine get_WC_10_gale (pc1 := 58) C hK kw_102 d_P_lookBack_55 rfl ?_
      refine g_iload_n (pc1 := 59) C d_P_lookBack_58 rfl rfl 2 rfl ?_
      refine g_iload (pc1 := 61) C d_P_lookBack_59 rfl 3 rfl ?_
      obtain ⟨m1, hm1, hF⟩ := bnd_some hF
      refine g_callVV (pc1 := 64) (ws1 := WC a cs m1) (As := [.int x3, .int x4]) (rest := []) (b := a 7) C hK 2 (c_G_blow l D cs a (stI μ 7 4 (μ.1 1 3)) x3 x4 m1 hm1) s_G_blow kw_140 7 rfl rfl rfl ⟨Nat.le_of_ble_eq_true rfl, Nat.le_of_ble_eq_true rfl⟩ ⟨rfl, rfl⟩ d_P_lookBack_61 rfl rfl (Nat.le_of_ble_eq_true rfl) ?_
      refine g_aload_n (pc1 := 65) C d_P_lookBack_64 rfl rfl 0 rfl ?_
      refine get_WC_10_gale (pc1 := 68) C hK kw_102 d_P_lookBack_65 rfl ?_
      refine get_WC_7_standing (pc1 := 71) C hK (v := (m1.1 7 4)) rfl kw_103 d_P_lookBack_68 rfl ?_
      refine g_iload_n (pc1 := 72) C d_P_lookBack_71 rfl rfl 1 rfl ?_
      refine g_icmp_ne (pc1 := 75) C 110 d_P_lookBack_72 rfl (by decide) (fun c1 => ?_) (fun c1 => ?_)
      · replace hF := ite_f hF c1
        refine g_iinc (pc1 := 113) (v := (x4 + (1 : Int32))) (L1 := [(4, .int (x4 + (1 : Int32))), (0, .ref (a 10)), (2, .int x2), (3, .int x3)]) C d_P_lookBack_110 rfl 3 rfl (by rw [ic_1]) (by decide) rfl ?_
        refine g_goto C 33 d_P_lookBack_113 (by decide) ?_
        exact g_sub [1, 2, 3, 0] rfl (hK33 m1 x2 x3 (x4 + (1 : Int32)) hF)
      · replace hF := ite_t hF c1
        refine g_aload_n (pc1 := 76) C d_P_lookBack_75 rfl rfl 0 rfl ?_
        refine g_aload_n (pc1 := 77) C d_P_lookBack_76 rfl rfl 0 rfl ?_
        refine get_WC_10_explained (pc1 := 80) C hK (v := (m1.1 10 4)) rfl kw_138 d_P_lookBack_77 rfl ?_
        refine g_if_ne (pc1 := 83) C 93 d_P_lookBack_80 rfl (by decide) (fun c1 => ?_) (fun c1 => ?_)
        · replace hF := ite_f hF c1
          refine g_aload_n (pc1 := 94) C d_P_lookBack_93 rfl rfl 0 rfl ?_
          refine get_WC_10_firstExplained (pc1 := 97) C hK (v := (m1.1 10 5)) rfl kw_139 d_P_lookBack_94 rfl ?_
          exact g_sub [0, 1, 2, 3] rfl (p_P_lookBack_97 C hK hr hlk K24 hK24 K33 hK33 m1 x2 x3 x4 (m1.1 10 5) hF)
        · replace hF := ite_t hF c1
          refine g_bipush (pc1 := 85) (v := (100 : Int32)) C d_P_lookBack_83 rfl bp_100 ?_
          refine g_iload_n (pc1 := 86) C d_P_lookBack_85 rfl rfl 2 rfl ?_
          refine g_imul (pc1 := 87) C d_P_lookBack_86 rfl ?_
          refine g_iload (pc1 := 89) C d_P_lookBack_87 rfl 3 rfl ?_
          refine g_iadd (pc1 := 90) C d_P_lookBack_89 rfl ?_
          refine g_goto C 97 d_P_lookBack_90 (by decide) ?_
          exact g_sub [0, 1, 2, 3] rfl (p_P_lookBack_97 C hK hr hlk K24 hK24 K33 hK33 m1 x2 x3 x4 (((100 : Int32) * x3) + x4) hF)
set_option maxHeartbeats 4000000 in
set_option maxRecDepth 100000 in
theorem p_P_lookBack_24 {p : Program} {l : Launch} {e : Env} {s : State} {m : MethodId} {args : Array Value} {below : List Frame} {meth : Method} {c : Code} {D : va_G} {cs : Nat → ClassId} {a : Nat → Nat} {μ1 : Mem} (C : Cx p s m args c b_P_lookBack 5 "TentPegs$Plans") (hK : va_K D classes (tys cs) s) (hr : meth.sig.returnType = none) (hlk : meth.locks = false)  : ∀ (μ : Mem) (x2 : Int32) (x3 : Int32), F_P_lookBack_24  μ x2 x3 = some μ1 → G p l e { frames := 6, cells := 0, slots := 0, locals := 135 } s m args below meth c (MQ below (Qv (AC a) D (WC a cs μ1)) args s 0 0 (AC a)) D (AC a) 5 (WC a cs μ) 24 [(0, .ref (a 10)), (2, .int x2), (3, .int x3)] [] := by
  refine iter_ind (fun (K24 : Mem → Int32 → Int32 → Option Mem) => ∀ (μ : Mem) (x2 : Int32) (x3 : Int32), K24 μ x2 x3 = some μ1 → G p l e { frames := 6, cells := 0, slots := 0, locals := 135 } s m args below meth c (MQ below (Qv (AC a) D (WC a cs μ1)) args s 0 0 (AC a)) D (AC a) 5 (WC a cs μ) 24 [(0, .ref (a 10)), (2, .int x2), (3, .int x3)] []) ?_ ?_ NF
  · intro μ x2 x3 hF
    exact none_no hF
  · intro K24 hK24 μ x2 x3 hF
    unfold S_P_lookBack_24 at hF
    refine g_iload_n (pc1 := 25) C d_P_lookBack_24 rfl rfl 2 rfl ?_
    refine g_bipush (pc1 := 27) (v := (8 : Int32)) C d_P_lookBack_25 rfl bp_8 ?_
    refine g_icmp_ge (pc1 := 30) C 122 d_P_lookBack_27 rfl (by decide) (fun c1 => ?_) (fun c1 => ?_)
    · replace hF := ite_t hF c1
      exact g_vret C hr hlk d_P_lookBack_122 (congrArg (WC a cs) (Option.some.inj hF))
    · replace hF := ite_f hF c1
      refine g_iconst (pc1 := 31) (v := (0 : Int32)) C d_P_lookBack_30 rfl ic_0 ?_
      refine g_istore (pc1 := 33) (L1 := [(4, .int (0 : Int32)), (0, .ref (a 10)), (2, .int x2), (3, .int x3)]) C d_P_lookBack_31 rfl (by decide) rfl ?_
      exact g_sub [1, 2, 3, 0] rfl (p_P_lookBack_33 C hK hr hlk K24 hK24 μ x2 x3 (0 : Int32) hF)
set_option maxHeartbeats 4000000 in
set_option maxRecDepth 100000 in
theorem c_P_lookBack (l : Launch) (D : va_G) (cs : Nat → ClassId) (a : Nat → Nat) (μ : Mem) (x1 : Int32) (μ1 : Mem) (hF : F_P_lookBack μ x1 = some μ1) : MetV l y_P_lookBack b_P_lookBack 5 none { frames := 6, cells := 0, slots := 0, locals := 135 } D cs (AC a) (WC a cs μ) [.ref (a 10), .int x1] (WC a cs μ1) := by
  refine met_of rfl (by decide +kernel) (Nat.le_of_ble_eq_true rfl) (fun p e s m below meth c C hK hr hlk => ?_)
  unfold F_P_lookBack at hF
  show G p l e { frames := 6, cells := 0, slots := 0, locals := 135 } s m _ below meth c _ D (AC a) 5 (WC a cs μ) 0 [(0, .ref (a 10)), (1, .int x1)] []
  refine g_aload_n (pc1 := 1) C d_P_lookBack_0 rfl rfl 0 rfl ?_
  refine get_WC_10_field (pc1 := 4) C hK kw_99 d_P_lookBack_1 rfl ?_
  refine get_WC_1_standing (pc1 := 7) C hK (v := (μ.1 1 3)) rfl kw_137 d_P_lookBack_4 rfl ?_
  refine g_iload_n (pc1 := 8) C d_P_lookBack_7 rfl rfl 1 rfl ?_
  refine g_iconst (pc1 := 9) (v := (-1 : Int32)) C d_P_lookBack_8 rfl ic_m1 ?_
  refine g_ixor (pc1 := 10) C d_P_lookBack_9 rfl ?_
  refine g_iand (pc1 := 11) C d_P_lookBack_10 rfl ?_
  refine g_istore_n (pc1 := 12) (L1 := [(2, .int ((μ.1 1 3) &&& (x1 ^^^ (-1 : Int32)))), (0, .ref (a 10)), (1, .int x1)]) C d_P_lookBack_11 rfl rfl (by decide) rfl ?_
  refine g_aload_n (pc1 := 13) C d_P_lookBack_12 rfl rfl 1 rfl ?_
  refine g_iconst (pc1 := 14) (v := (0 : Int32)) C d_P_lookBack_13 rfl ic_0 ?_
  refine put_WC_10_explained (pc1 := 17) C hK kw_138 d_P_lookBack_14 rfl ?_
  refine g_aload_n (pc1 := 18) C d_P_lookBack_17 rfl rfl 1 rfl ?_
  refine g_iconst (pc1 := 19) (v := (-1 : Int32)) C d_P_lookBack_18 rfl ic_m1 ?_
  refine put_WC_10_firstExplained (pc1 := 22) C hK kw_139 d_P_lookBack_19 rfl ?_
  refine g_iconst (pc1 := 23) (v := (0 : Int32)) C d_P_lookBack_22 rfl ic_0 ?_
  refine g_istore_n (pc1 := 24) (L1 := [(3, .int (0 : Int32)), (2, .int ((μ.1 1 3) &&& (x1 ^^^ (-1 : Int32)))), (0, .ref (a 10)), (1, .int x1)]) C d_P_lookBack_23 rfl rfl (by decide) rfl ?_
  exact g_sub [2, 1, 0] rfl (p_P_lookBack_24 C hK hr hlk  (stI (stI μ 10 4 (0 : Int32)) 10 5 (-1 : Int32)) ((μ.1 1 3) &&& (x1 ^^^ (-1 : Int32))) (0 : Int32) hF)
-- TentPegs.morning(II)I
set_option maxHeartbeats 4000000 in
set_option maxRecDepth 100000 in
theorem p_T_morning_37 {p : Program} {l : Launch} {e : Env} {s : State} {m : MethodId} {args : Array Value} {below : List Frame} {meth : Method} {c : Code} {D : va_G} {cs : Nat → ClassId} {a : Nat → Nat} {r : Int32} {μ1 : Mem} (C : Cx p s m args c b_T_morning 4 "TentPegs") (hK : va_K D classes (tys cs) s) (hr : meth.sig.returnType = (some .int)) (hlk : meth.locks = false)  (μ : Mem)  (hF : F_T_morning_37  μ = some (r, μ1)) : G p l e { frames := 7, cells := 0, slots := 0, locals := 159 } s m args below meth c (MQ below (Qi (AC a) D (WC a cs μ1) r) args s 0 0 (AC a)) D (AC a) 4 (WC a cs μ) 37 [(0, .ref (a 0))] [] := by
  unfold F_T_morning_37 at hF
  refine g_aload_n (pc1 := 38) C d_T_morning_37 rfl rfl 0 rfl ?_
  refine g_bipush (pc1 := 40) (v := (-10 : Int32)) C d_T_morning_38 rfl bp_m10 ?_
  obtain ⟨⟨r1, m1⟩, hm1, hF⟩ := bnd_some hF
  refine g_callVI (pc1 := 43) (ws1 := WC a cs m1) (As := [.int (-10 : Int32)]) (rest := []) (b := a 0) C hK 1 (c_T_bad l D cs a μ (-10 : Int32) r1 m1 hm1) s_T_bad kw_15 0 rfl rfl rfl ⟨Nat.le_of_ble_eq_true rfl, Nat.le_of_ble_eq_true rfl⟩ ⟨rfl, rfl⟩ d_T_morning_40 rfl rfl (Nat.le_of_ble_eq_true rfl) ?_
  exact g_iret C hr hlk d_T_morning_43 (fst_of hF) (congrArg (WC a cs) (snd_of hF))
set_option maxHeartbeats 4000000 in
set_option maxRecDepth 100000 in
theorem p_T_morning_23 {p : Program} {l : Launch} {e : Env} {s : State} {m : MethodId} {args : Array Value} {below : List Frame} {meth : Method} {c : Code} {D : va_G} {cs : Nat → ClassId} {a : Nat → Nat} {r : Int32} {μ1 : Mem} (C : Cx p s m args c b_T_morning 4 "TentPegs") (hK : va_K D classes (tys cs) s) (hr : meth.sig.returnType = (some .int)) (hlk : meth.locks = false)  (μ : Mem) (x1 : Int32) (x2 : Int32) (s0 : Int32) (hF : F_T_morning_23  μ x1 x2 s0 = some (r, μ1)) : G p l e { frames := 7, cells := 0, slots := 0, locals := 159 } s m args below meth c (MQ below (Qi (AC a) D (WC a cs μ1) r) args s 0 0 (AC a)) D (AC a) 4 (WC a cs μ) 23 [(0, .ref (a 0)), (1, .int x1), (2, .int x2)] [.int s0] := by
  unfold F_T_morning_23 at hF
  refine g_istore_n (pc1 := 24) (L1 := [(3, .int s0), (0, .ref (a 0)), (1, .int x1), (2, .int x2)]) C d_T_morning_23 rfl rfl (by decide) rfl ?_
  refine g_iload_n (pc1 := 25) C d_T_morning_24 rfl rfl 0 rfl ?_
  refine g_if_eq (pc1 := 28) C 37 d_T_morning_25 rfl (by decide) (fun c1 => ?_) (fun c1 => ?_)
  · replace hF := ite_t hF c1
    exact g_sub [1] rfl (p_T_morning_37 C hK hr hlk  μ hF)
  · replace hF := ite_f hF c1
    refine g_iload_n (pc1 := 29) C d_T_morning_28 rfl rfl 3 rfl ?_
    refine g_iconst (pc1 := 30) (v := (0 : Int32)) C d_T_morning_29 rfl ic_0 ?_
    refine g_iconst (pc1 := 31) (v := (1 : Int32)) C d_T_morning_30 rfl ic_1 ?_
    obtain ⟨r1, hr1, hF⟩ := bnd_some hF
    refine g_callSI (pc1 := 34) (As := [.int x2, .int (0 : Int32), .int (1 : Int32)]) (rest := []) C 3 (c_T_within l x2 (0 : Int32) (1 : Int32) r1 hr1) s_T_within kw_22 rfl ⟨Nat.le_of_ble_eq_true rfl, Nat.le_of_ble_eq_true rfl⟩ ⟨rfl, rfl⟩ d_T_morning_31 rfl rfl (Nat.le_of_ble_eq_true rfl) ?_
    refine g_if_ne (pc1 := 37) C 44 d_T_morning_34 rfl (by decide) (fun c1 => ?_) (fun c1 => ?_)
    · replace hF := ite_f hF c1
      refine g_aload_n (pc1 := 45) C d_T_morning_44 rfl rfl 1 rfl ?_
      obtain ⟨m2, hm2, hF⟩ := bnd_some hF
      refine g_callVR (pc1 := 48) (ws1 := WC a cs m2) (As := []) (rest := []) (b := a 0) C hK 0 (c_T_asItIs l D cs a μ  m2 hm2) s_T_asItIs kw_81 0 rfl rfl rfl ⟨Nat.le_of_ble_eq_true rfl, Nat.le_of_ble_eq_true rfl⟩ ⟨rfl, rfl⟩ d_T_morning_45 rfl rfl (Nat.le_of_ble_eq_true rfl) ?_
      refine g_pop (pc1 := 49) C d_T_morning_48 rfl rfl ?_
      refine g_aload_n (pc1 := 50) C d_T_morning_49 rfl rfl 1 rfl ?_
      refine get_WC_0_plans (pc1 := 53) C hK kw_107 d_T_morning_50 rfl ?_
      refine g_iload_n (pc1 := 54) C d_T_morning_53 rfl rfl 2 rfl ?_
      obtain ⟨m3, hm3, hF⟩ := bnd_some hF
      refine g_callVV (pc1 := 57) (ws1 := WC a cs m3) (As := [.int x1]) (rest := []) (b := a 10) C hK 1 (c_P_lookBack l D cs a m2 x1 m3 hm3) s_P_lookBack kw_141 10 rfl rfl rfl ⟨Nat.le_of_ble_eq_true rfl, Nat.le_of_ble_eq_true rfl⟩ ⟨rfl, rfl⟩ d_T_morning_54 rfl rfl (Nat.le_of_ble_eq_true rfl) ?_
      refine g_iload_n (pc1 := 58) C d_T_morning_57 rfl rfl 3 rfl ?_
      refine g_if_ne (pc1 := 61) C 71 d_T_morning_58 rfl (by decide) (fun c1 => ?_) (fun c1 => ?_)
      · replace hF := ite_f hF c1
        refine g_aload_n (pc1 := 72) C d_T_morning_71 rfl rfl 1 rfl ?_
        refine get_WC_0_plans (pc1 := 75) C hK kw_107 d_T_morning_72 rfl ?_
        refine get_WC_10_firstExplained (pc1 := 78) C hK (v := (m3.1 10 5)) rfl kw_142 d_T_morning_75 rfl ?_
        exact g_iret C hr hlk d_T_morning_78 (fst_of hF) (congrArg (WC a cs) (snd_of hF))
      · replace hF := ite_t hF c1
        refine g_aload_n (pc1 := 62) C d_T_morning_61 rfl rfl 1 rfl ?_
        refine get_WC_0_plans (pc1 := 65) C hK kw_107 d_T_morning_62 rfl ?_
        refine get_WC_10_explained (pc1 := 68) C hK (v := (m3.1 10 4)) rfl kw_143 d_T_morning_65 rfl ?_
        refine g_goto C 78 d_T_morning_68 (by decide) ?_
        exact g_iret C hr hlk d_T_morning_78 (fst_of hF) (congrArg (WC a cs) (snd_of hF))
    · replace hF := ite_t hF c1
      exact g_sub [1] rfl (p_T_morning_37 C hK hr hlk  μ hF)
set_option maxHeartbeats 4000000 in
set_option maxRecDepth 100000 in
theorem p_T_morning_22 {p : Program} {l : Launch} {e : Env} {s : State} {m : MethodId} {args : Array Value} {below : List Frame} {meth : Method} {c : Code} {D : va_G} {cs : Nat → ClassId} {a : Nat → Nat} {r : Int32} {μ1 : Mem} (C : Cx p s m args c b_T_morning 4 "TentPegs") (hK : va_K D classes (tys cs) s) (hr : meth.sig.returnType = (some .int)) (hlk : meth.locks = false)  (μ : Mem) (x1 : Int32) (x2 : Int32) (hF : F_T_morning_22  μ x1 x2 = some (r, μ1)) : G p l e { frames := 7, cells := 0, slots := 0, locals := 159 } s m args below meth c (MQ below (Qi (AC a) D (WC a cs μ1) r) args s 0 0 (AC a)) D (AC a) 4 (WC a cs μ) 22 [(0, .ref (a 0)), (1, .int x1), (2, .int x2)] [] := by
  unfold F_T_morning_22 at hF
  refine g_iconst (pc1 := 23) (v := (0 : Int32)) C d_T_morning_22 rfl ic_0 ?_
  exact g_sub [0, 1, 2] rfl (p_T_morning_23 C hK hr hlk  μ x1 x2 (0 : Int32) hF)
set_option maxHeartbeats 4000000 in
set_option maxRecDepth 100000 in
theorem c_T_morning (l : Launch) (D : va_G) (cs : Nat → ClassId) (a : Nat → Nat) (μ : Mem) (x1 : Int32) (x2 : Int32) (r : Int32) (μ1 : Mem) (hF : F_T_morning μ x1 x2 = some (r, μ1)) : MetI l y_T_morning b_T_morning 4 (some .int) { frames := 7, cells := 0, slots := 0, locals := 159 } D cs (AC a) (WC a cs μ) [.ref (a 0), .int x1, .int x2] r (WC a cs μ1) := by
  refine met_of rfl (by decide +kernel) (Nat.le_of_ble_eq_true rfl) (fun p e s m below meth c C hK hr hlk => ?_)
  unfold F_T_morning at hF
  show G p l e { frames := 7, cells := 0, slots := 0, locals := 159 } s m _ below meth c _ D (AC a) 4 (WC a cs μ) 0 [(0, .ref (a 0)), (1, .int x1), (2, .int x2)] []
  refine g_iload_n (pc1 := 1) C d_T_morning_0 rfl rfl 1 rfl ?_
  refine g_if_lt (pc1 := 4) C 22 d_T_morning_1 rfl (by decide) (fun c1 => ?_) (fun c1 => ?_)
  · replace hF := ite_t hF c1
    exact g_sub [0, 1, 2] rfl (p_T_morning_22 C hK hr hlk  μ x1 x2 hF)
  · replace hF := ite_f hF c1
    refine g_iload_n (pc1 := 5) C d_T_morning_4 rfl rfl 1 rfl ?_
    refine g_aload_n (pc1 := 6) C d_T_morning_5 rfl rfl 0 rfl ?_
    refine get_WC_0_field (pc1 := 9) C hK kw_12 d_T_morning_6 rfl ?_
    refine get_WC_1_standing (pc1 := 12) C hK (v := (μ.1 1 3)) rfl kw_78 d_T_morning_9 rfl ?_
    refine g_iconst (pc1 := 13) (v := (-1 : Int32)) C d_T_morning_12 rfl ic_m1 ?_
    refine g_ixor (pc1 := 14) C d_T_morning_13 rfl ?_
    refine g_iand (pc1 := 15) C d_T_morning_14 rfl ?_
    refine g_if_ne (pc1 := 18) C 22 d_T_morning_15 rfl (by decide) (fun c1 => ?_) (fun c1 => ?_)
    · replace hF := ite_f hF c1
      exact g_sub [0, 1, 2] rfl (p_T_morning_22 C hK hr hlk  μ x1 x2 hF)
    · replace hF := ite_t hF c1
      refine g_iconst (pc1 := 19) (v := (1 : Int32)) C d_T_morning_18 rfl ic_1 ?_
      refine g_goto C 23 d_T_morning_19 (by decide) ?_
      exact g_sub [0, 1, 2] rfl (p_T_morning_23 C hK hr hlk  μ x1 x2 (1 : Int32) hF)
-- TentPegs$Plans.seeNeeds(II)V
set_option maxHeartbeats 4000000 in
set_option maxRecDepth 100000 in
theorem p_P_seeNeeds_2 {p : Program} {l : Launch} {e : Env} {s : State} {m : MethodId} {args : Array Value} {below : List Frame} {meth : Method} {c : Code} {D : va_G} {cs : Nat → ClassId} {a : Nat → Nat} {μ1 : Mem} (C : Cx p s m args c b_P_seeNeeds 4 "TentPegs$Plans") (hK : va_K D classes (tys cs) s) (hr : meth.sig.returnType = none) (hlk : meth.locks = false)  : ∀ (μ : Mem) (x1 : Int32) (x2 : Int32) (x3 : Int32), F_P_seeNeeds_2  μ x1 x2 x3 = some μ1 → G p l e { frames := 4, cells := 0, slots := 0, locals := 90 } s m args below meth c (MQ below (Qv (AC a) D (WC a cs μ1)) args s 0 0 (AC a)) D (AC a) 4 (WC a cs μ) 2 [(0, .ref (a 10)), (1, .int x1), (2, .int x2), (3, .int x3)] [] := by
  refine iter_ind (fun (K2 : Mem → Int32 → Int32 → Int32 → Option Mem) => ∀ (μ : Mem) (x1 : Int32) (x2 : Int32) (x3 : Int32), K2 μ x1 x2 x3 = some μ1 → G p l e { frames := 4, cells := 0, slots := 0, locals := 90 } s m args below meth c (MQ below (Qv (AC a) D (WC a cs μ1)) args s 0 0 (AC a)) D (AC a) 4 (WC a cs μ) 2 [(0, .ref (a 10)), (1, .int x1), (2, .int x2), (3, .int x3)] []) ?_ ?_ NF
  · intro μ x1 x2 x3 hF
    exact none_no hF
  · intro K2 hK2 μ x1 x2 x3 hF
    unfold S_P_seeNeeds_2 at hF
    refine g_iload_n (pc1 := 3) C d_P_seeNeeds_2 rfl rfl 3 rfl ?_
    refine g_aload_n (pc1 := 4) C d_P_seeNeeds_3 rfl rfl 0 rfl ?_
    refine get_WC_10_field (pc1 := 7) C hK kw_99 d_P_seeNeeds_4 rfl ?_
    refine get_WC_1_pegs (pc1 := 10) C hK (v := (μ.1 1 0)) rfl kw_100 d_P_seeNeeds_7 rfl ?_
    refine g_icmp_ge (pc1 := 13) C 41 d_P_seeNeeds_10 rfl (by decide) (fun c1 => ?_) (fun c1 => ?_)
    · replace hF := ite_t hF c1
      exact g_vret C hr hlk d_P_seeNeeds_41 (congrArg (WC a cs) (Option.some.inj hF))
    · replace hF := ite_f hF c1
      refine g_aload_n (pc1 := 14) C d_P_seeNeeds_13 rfl rfl 0 rfl ?_
      refine get_WC_10_needs (pc1 := 17) C hK kw_144 d_P_seeNeeds_14 rfl ?_
      refine g_iload_n (pc1 := 18) C d_P_seeNeeds_17 rfl rfl 3 rfl ?_
      refine g_aload_n (pc1 := 19) C d_P_seeNeeds_18 rfl rfl 0 rfl ?_
      refine g_iload_n (pc1 := 20) C d_P_seeNeeds_19 rfl rfl 3 rfl ?_
      refine g_iconst (pc1 := 21) (v := (0 : Int32)) C d_P_seeNeeds_20 rfl ic_0 ?_
      refine g_aload_n (pc1 := 22) C d_P_seeNeeds_21 rfl rfl 0 rfl ?_
      refine get_WC_10_gale (pc1 := 25) C hK kw_102 d_P_seeNeeds_22 rfl ?_
      refine g_iload_n (pc1 := 26) C d_P_seeNeeds_25 rfl rfl 3 rfl ?_
      refine g_iload_n (pc1 := 27) C d_P_seeNeeds_26 rfl rfl 1 rfl ?_
      refine g_iload_n (pc1 := 28) C d_P_seeNeeds_27 rfl rfl 2 rfl ?_
      obtain ⟨r1, hr1, hF⟩ := bnd_some hF
      refine g_callVI (pc1 := 31) (ws1 := WC a cs μ) (As := [.int x3, .int x1, .int x2]) (rest := [.int (0 : Int32), .int x3, .ref (a 10), .int x3, .ref (a 12)]) (b := a 7) C hK 3 (c_G_pullOn l D cs a μ x3 x1 x2 r1 hr1) s_G_pullOn kw_114 7 rfl rfl rfl ⟨Nat.le_of_ble_eq_true rfl, Nat.le_of_ble_eq_true rfl⟩ ⟨rfl, rfl⟩ d_P_seeNeeds_28 rfl rfl (Nat.le_of_ble_eq_true rfl) ?_
      obtain ⟨r2, hr2, hF⟩ := bnd_some hF
      refine g_callVI (pc1 := 34) (ws1 := WC a cs μ) (As := [.int x3, .int (0 : Int32), .int r1]) (rest := [.int x3, .ref (a 12)]) (b := a 10) C hK 3 (c_P_deepEnough l D cs a μ x3 (0 : Int32) r1 r2 hr2) s_P_deepEnough kw_115 10 rfl rfl rfl ⟨Nat.le_of_ble_eq_true rfl, Nat.le_of_ble_eq_true rfl⟩ ⟨rfl, rfl⟩ d_P_seeNeeds_31 rfl rfl (Nat.le_of_ble_eq_true rfl) ?_
      have hg := gd_some hF
      replace hF := hg.2
      refine g_iast (pc1 := 35) (ws1 := WC a cs (stI μ 12 x3.toNatClampNeg r2)) C hK 12 (f := (μ.1 12)) rfl hg.1 (set_WC_12 _ _ _ _ _) d_P_seeNeeds_34 rfl ?_
      refine g_iinc (pc1 := 38) (v := (x3 + (1 : Int32))) (L1 := [(3, .int (x3 + (1 : Int32))), (0, .ref (a 10)), (1, .int x1), (2, .int x2)]) C d_P_seeNeeds_35 rfl 3 rfl (by rw [ic_1]) (by decide) rfl ?_
      refine g_goto C 2 d_P_seeNeeds_38 (by decide) ?_
      exact g_sub [1, 2, 3, 0] rfl (hK2 (stI μ 12 x3.toNatClampNeg r2) x1 x2 (x3 + (1 : Int32)) hF)
set_option maxHeartbeats 4000000 in
set_option maxRecDepth 100000 in
theorem c_P_seeNeeds (l : Launch) (D : va_G) (cs : Nat → ClassId) (a : Nat → Nat) (μ : Mem) (x1 : Int32) (x2 : Int32) (μ1 : Mem) (hF : F_P_seeNeeds μ x1 x2 = some μ1) : MetV l y_P_seeNeeds b_P_seeNeeds 4 none { frames := 4, cells := 0, slots := 0, locals := 90 } D cs (AC a) (WC a cs μ) [.ref (a 10), .int x1, .int x2] (WC a cs μ1) := by
  refine met_of rfl (by decide +kernel) (Nat.le_of_ble_eq_true rfl) (fun p e s m below meth c C hK hr hlk => ?_)
  unfold F_P_seeNeeds at hF
  show G p l e { frames := 4, cells := 0, slots := 0, locals := 90 } s m _ below meth c _ D (AC a) 4 (WC a cs μ) 0 [(0, .ref (a 10)), (1, .int x1), (2, .int x2)] []
  refine g_iconst (pc1 := 1) (v := (0 : Int32)) C d_P_seeNeeds_0 rfl ic_0 ?_
  refine g_istore_n (pc1 := 2) (L1 := [(3, .int (0 : Int32)), (0, .ref (a 10)), (1, .int x1), (2, .int x2)]) C d_P_seeNeeds_1 rfl rfl (by decide) rfl ?_
  exact g_sub [1, 2, 3, 0] rfl (p_P_seeNeeds_2 C hK hr hlk  μ x1 x2 (0 : Int32) hF)
-- TentPegs$Plans.inchesTooMany()I
set_option maxHeartbeats 4000000 in
set_option maxRecDepth 100000 in
theorem p_P_inchesTooMany_4 {p : Program} {l : Launch} {e : Env} {s : State} {m : MethodId} {args : Array Value} {below : List Frame} {meth : Method} {c : Code} {D : va_G} {cs : Nat → ClassId} {a : Nat → Nat} {μ : Mem} {r : Int32} (C : Cx p s m args c b_P_inchesTooMany 3 "TentPegs$Plans") (hK : va_K D classes (tys cs) s) (hr : meth.sig.returnType = (some .int)) (hlk : meth.locks = false)  : ∀ (x1 : Int32) (x2 : Int32), F_P_inchesTooMany_4  μ x1 x2 = some r → G p l e { frames := 1, cells := 0, slots := 0, locals := 21 } s m args below meth c (MQ below (Qi (AC a) D (WC a cs μ) r) args s 0 0 (AC a)) D (AC a) 3 (WC a cs μ) 4 [(0, .ref (a 10)), (1, .int x1), (2, .int x2)] [] := by
  refine iter_ind (fun (K4 : Mem → Int32 → Int32 → Option Int32) => ∀ (x1 : Int32) (x2 : Int32), K4 μ x1 x2 = some r → G p l e { frames := 1, cells := 0, slots := 0, locals := 21 } s m args below meth c (MQ below (Qi (AC a) D (WC a cs μ) r) args s 0 0 (AC a)) D (AC a) 3 (WC a cs μ) 4 [(0, .ref (a 10)), (1, .int x1), (2, .int x2)] []) ?_ ?_ NF
  · intro x1 x2 hF
    exact none_no hF
  · intro K4 hK4 x1 x2 hF
    unfold S_P_inchesTooMany_4 at hF
    refine g_iload_n (pc1 := 5) C d_P_inchesTooMany_4 rfl rfl 2 rfl ?_
    refine g_aload_n (pc1 := 6) C d_P_inchesTooMany_5 rfl rfl 0 rfl ?_
    refine get_WC_10_field (pc1 := 9) C hK kw_99 d_P_inchesTooMany_6 rfl ?_
    refine get_WC_1_pegs (pc1 := 12) C hK (v := (μ.1 1 0)) rfl kw_100 d_P_inchesTooMany_9 rfl ?_
    refine g_icmp_ge (pc1 := 15) C 62 d_P_inchesTooMany_12 rfl (by decide) (fun c1 => ?_) (fun c1 => ?_)
    · replace hF := ite_t hF c1
      refine g_iload_n (pc1 := 63) C d_P_inchesTooMany_62 rfl rfl 1 rfl ?_
      exact g_iret C hr hlk d_P_inchesTooMany_63 (Option.some.inj hF) rfl
    · replace hF := ite_f hF c1
      refine g_iload_n (pc1 := 16) C d_P_inchesTooMany_15 rfl rfl 1 rfl ?_
      refine g_aload_n (pc1 := 17) C d_P_inchesTooMany_16 rfl rfl 0 rfl ?_
      refine get_WC_10_field (pc1 := 20) C hK kw_99 d_P_inchesTooMany_17 rfl ?_
      refine get_WC_1_standing (pc1 := 23) C hK (v := (μ.1 1 3)) rfl kw_137 d_P_inchesTooMany_20 rfl ?_
      refine g_iload_n (pc1 := 24) C d_P_inchesTooMany_23 rfl rfl 2 rfl ?_
      obtain ⟨r1, hr1, hF⟩ := bnd_some hF
      refine g_callNI (pc1 := 27) (As := [.int (μ.1 1 3), .int x2]) (rest := [.int x1]) C 2 (c_T_has l (μ.1 1 3) x2 r1 hr1) s_T_has 10 rfl rfl ⟨Nat.le_of_ble_eq_true rfl, Nat.le_of_ble_eq_true rfl⟩ ⟨rfl, rfl⟩ d_P_inchesTooMany_24 rfl rfl (Nat.le_of_ble_eq_true rfl) ?_
      refine g_if_eq (pc1 := 30) C 53 d_P_inchesTooMany_27 rfl (by decide) (fun c1 => ?_) (fun c1 => ?_)
      · replace hF := ite_t hF c1
        refine g_iconst (pc1 := 54) (v := (0 : Int32)) C d_P_inchesTooMany_53 rfl ic_0 ?_
        refine g_iadd (pc1 := 55) C d_P_inchesTooMany_54 rfl ?_
        refine g_istore_n (pc1 := 56) (L1 := [(1, .int (x1 + (0 : Int32))), (0, .ref (a 10)), (2, .int x2)]) C d_P_inchesTooMany_55 rfl rfl (by decide) rfl ?_
        refine g_iinc (pc1 := 59) (v := (x2 + (1 : Int32))) (L1 := [(2, .int (x2 + (1 : Int32))), (1, .int (x1 + (0 : Int32))), (0, .ref (a 10))]) C d_P_inchesTooMany_56 rfl 2 rfl (by rw [ic_1]) (by decide) rfl ?_
        refine g_goto C 4 d_P_inchesTooMany_59 (by decide) ?_
        exact g_sub [2, 1, 0] rfl (hK4 (x1 + (0 : Int32)) (x2 + (1 : Int32)) hF)
      · replace hF := ite_f hF c1
        refine g_iconst (pc1 := 31) (v := (0 : Int32)) C d_P_inchesTooMany_30 rfl ic_0 ?_
        refine g_aload_n (pc1 := 32) C d_P_inchesTooMany_31 rfl rfl 0 rfl ?_
        refine get_WC_10_field (pc1 := 35) C hK kw_99 d_P_inchesTooMany_32 rfl ?_
        refine get_WC_1_depths (pc1 := 38) C hK kw_113 d_P_inchesTooMany_35 rfl ?_
        refine g_iload_n (pc1 := 39) C d_P_inchesTooMany_38 rfl rfl 2 rfl ?_
        have hg := gd_some hF
        replace hF := hg.2
        refine g_iald (pc1 := 40) C hK 3 (f := (μ.1 3)) rfl hg.1 d_P_inchesTooMany_39 rfl ?_
        refine g_aload_n (pc1 := 41) C d_P_inchesTooMany_40 rfl rfl 0 rfl ?_
        refine get_WC_10_needs (pc1 := 44) C hK kw_144 d_P_inchesTooMany_41 rfl ?_
        refine g_iload_n (pc1 := 45) C d_P_inchesTooMany_44 rfl rfl 2 rfl ?_
        have hg := gd_some hF
        replace hF := hg.2
        refine g_iald (pc1 := 46) C hK 12 (f := (μ.1 12)) rfl hg.1 d_P_inchesTooMany_45 rfl ?_
        refine g_isub (pc1 := 47) C d_P_inchesTooMany_46 rfl ?_
        refine g_mmax (pc1 := 50) (rest := [.int x1]) C kw_106 (Nat.le_of_ble_eq_true rfl) (Nat.le_of_ble_eq_true rfl) d_P_inchesTooMany_47 rfl ?_
        refine g_goto C 54 d_P_inchesTooMany_50 (by decide) ?_
        refine g_iadd (pc1 := 55) C d_P_inchesTooMany_54 rfl ?_
        refine g_istore_n (pc1 := 56) (L1 := [(1, .int (x1 + (if (0 : Int32) < (((μ.1 3) x2.toNatClampNeg) - ((μ.1 12) x2.toNatClampNeg)) then (((μ.1 3) x2.toNatClampNeg) - ((μ.1 12) x2.toNatClampNeg)) else (0 : Int32)))), (0, .ref (a 10)), (2, .int x2)]) C d_P_inchesTooMany_55 rfl rfl (by decide) rfl ?_
        refine g_iinc (pc1 := 59) (v := (x2 + (1 : Int32))) (L1 := [(2, .int (x2 + (1 : Int32))), (1, .int (x1 + (if (0 : Int32) < (((μ.1 3) x2.toNatClampNeg) - ((μ.1 12) x2.toNatClampNeg)) then (((μ.1 3) x2.toNatClampNeg) - ((μ.1 12) x2.toNatClampNeg)) else (0 : Int32)))), (0, .ref (a 10))]) C d_P_inchesTooMany_56 rfl 2 rfl (by rw [ic_1]) (by decide) rfl ?_
        refine g_goto C 4 d_P_inchesTooMany_59 (by decide) ?_
        exact g_sub [2, 1, 0] rfl (hK4 (x1 + (if (0 : Int32) < (((μ.1 3) x2.toNatClampNeg) - ((μ.1 12) x2.toNatClampNeg)) then (((μ.1 3) x2.toNatClampNeg) - ((μ.1 12) x2.toNatClampNeg)) else (0 : Int32))) (x2 + (1 : Int32)) hF)
set_option maxHeartbeats 4000000 in
set_option maxRecDepth 100000 in
theorem c_P_inchesTooMany (l : Launch) (D : va_G) (cs : Nat → ClassId) (a : Nat → Nat) (μ : Mem)  (r : Int32) (hF : F_P_inchesTooMany μ = some r) : MetI l y_P_inchesTooMany b_P_inchesTooMany 3 (some .int) { frames := 1, cells := 0, slots := 0, locals := 21 } D cs (AC a) (WC a cs μ) [.ref (a 10)] r (WC a cs μ) := by
  refine met_of rfl (by decide +kernel) (Nat.le_of_ble_eq_true rfl) (fun p e s m below meth c C hK hr hlk => ?_)
  unfold F_P_inchesTooMany at hF
  show G p l e { frames := 1, cells := 0, slots := 0, locals := 21 } s m _ below meth c _ D (AC a) 3 (WC a cs μ) 0 [(0, .ref (a 10))] []
  refine g_iconst (pc1 := 1) (v := (0 : Int32)) C d_P_inchesTooMany_0 rfl ic_0 ?_
  refine g_istore_n (pc1 := 2) (L1 := [(1, .int (0 : Int32)), (0, .ref (a 10))]) C d_P_inchesTooMany_1 rfl rfl (by decide) rfl ?_
  refine g_iconst (pc1 := 3) (v := (0 : Int32)) C d_P_inchesTooMany_2 rfl ic_0 ?_
  refine g_istore_n (pc1 := 4) (L1 := [(2, .int (0 : Int32)), (1, .int (0 : Int32)), (0, .ref (a 10))]) C d_P_inchesTooMany_3 rfl rfl (by decide) rfl ?_
  exact g_sub [2, 1, 0] rfl (p_P_inchesTooMany_4 C hK hr hlk  (0 : Int32) (0 : Int32) hF)
-- TentPegs$Plans.inchesTooFew()I
set_option maxHeartbeats 4000000 in
set_option maxRecDepth 100000 in
theorem p_P_inchesTooFew_4 {p : Program} {l : Launch} {e : Env} {s : State} {m : MethodId} {args : Array Value} {below : List Frame} {meth : Method} {c : Code} {D : va_G} {cs : Nat → ClassId} {a : Nat → Nat} {μ : Mem} {r : Int32} (C : Cx p s m args c b_P_inchesTooFew 3 "TentPegs$Plans") (hK : va_K D classes (tys cs) s) (hr : meth.sig.returnType = (some .int)) (hlk : meth.locks = false)  : ∀ (x1 : Int32) (x2 : Int32), F_P_inchesTooFew_4  μ x1 x2 = some r → G p l e { frames := 1, cells := 0, slots := 0, locals := 21 } s m args below meth c (MQ below (Qi (AC a) D (WC a cs μ) r) args s 0 0 (AC a)) D (AC a) 3 (WC a cs μ) 4 [(0, .ref (a 10)), (1, .int x1), (2, .int x2)] [] := by
  refine iter_ind (fun (K4 : Mem → Int32 → Int32 → Option Int32) => ∀ (x1 : Int32) (x2 : Int32), K4 μ x1 x2 = some r → G p l e { frames := 1, cells := 0, slots := 0, locals := 21 } s m args below meth c (MQ below (Qi (AC a) D (WC a cs μ) r) args s 0 0 (AC a)) D (AC a) 3 (WC a cs μ) 4 [(0, .ref (a 10)), (1, .int x1), (2, .int x2)] []) ?_ ?_ NF
  · intro x1 x2 hF
    exact none_no hF
  · intro K4 hK4 x1 x2 hF
    unfold S_P_inchesTooFew_4 at hF
    refine g_iload_n (pc1 := 5) C d_P_inchesTooFew_4 rfl rfl 2 rfl ?_
    refine g_aload_n (pc1 := 6) C d_P_inchesTooFew_5 rfl rfl 0 rfl ?_
    refine get_WC_10_field (pc1 := 9) C hK kw_99 d_P_inchesTooFew_6 rfl ?_
    refine get_WC_1_pegs (pc1 := 12) C hK (v := (μ.1 1 0)) rfl kw_100 d_P_inchesTooFew_9 rfl ?_
    refine g_icmp_ge (pc1 := 15) C 62 d_P_inchesTooFew_12 rfl (by decide) (fun c1 => ?_) (fun c1 => ?_)
    · replace hF := ite_t hF c1
      refine g_iload_n (pc1 := 63) C d_P_inchesTooFew_62 rfl rfl 1 rfl ?_
      exact g_iret C hr hlk d_P_inchesTooFew_63 (Option.some.inj hF) rfl
    · replace hF := ite_f hF c1
      refine g_iload_n (pc1 := 16) C d_P_inchesTooFew_15 rfl rfl 1 rfl ?_
      refine g_aload_n (pc1 := 17) C d_P_inchesTooFew_16 rfl rfl 0 rfl ?_
      refine get_WC_10_field (pc1 := 20) C hK kw_99 d_P_inchesTooFew_17 rfl ?_
      refine get_WC_1_standing (pc1 := 23) C hK (v := (μ.1 1 3)) rfl kw_137 d_P_inchesTooFew_20 rfl ?_
      refine g_iload_n (pc1 := 24) C d_P_inchesTooFew_23 rfl rfl 2 rfl ?_
      obtain ⟨r1, hr1, hF⟩ := bnd_some hF
      refine g_callNI (pc1 := 27) (As := [.int (μ.1 1 3), .int x2]) (rest := [.int x1]) C 2 (c_T_has l (μ.1 1 3) x2 r1 hr1) s_T_has 10 rfl rfl ⟨Nat.le_of_ble_eq_true rfl, Nat.le_of_ble_eq_true rfl⟩ ⟨rfl, rfl⟩ d_P_inchesTooFew_24 rfl rfl (Nat.le_of_ble_eq_true rfl) ?_
      refine g_if_eq (pc1 := 30) C 53 d_P_inchesTooFew_27 rfl (by decide) (fun c1 => ?_) (fun c1 => ?_)
      · replace hF := ite_t hF c1
        refine g_iconst (pc1 := 54) (v := (0 : Int32)) C d_P_inchesTooFew_53 rfl ic_0 ?_
        refine g_iadd (pc1 := 55) C d_P_inchesTooFew_54 rfl ?_
        refine g_istore_n (pc1 := 56) (L1 := [(1, .int (x1 + (0 : Int32))), (0, .ref (a 10)), (2, .int x2)]) C d_P_inchesTooFew_55 rfl rfl (by decide) rfl ?_
        refine g_iinc (pc1 := 59) (v := (x2 + (1 : Int32))) (L1 := [(2, .int (x2 + (1 : Int32))), (1, .int (x1 + (0 : Int32))), (0, .ref (a 10))]) C d_P_inchesTooFew_56 rfl 2 rfl (by rw [ic_1]) (by decide) rfl ?_
        refine g_goto C 4 d_P_inchesTooFew_59 (by decide) ?_
        exact g_sub [2, 1, 0] rfl (hK4 (x1 + (0 : Int32)) (x2 + (1 : Int32)) hF)
      · replace hF := ite_f hF c1
        refine g_iconst (pc1 := 31) (v := (0 : Int32)) C d_P_inchesTooFew_30 rfl ic_0 ?_
        refine g_aload_n (pc1 := 32) C d_P_inchesTooFew_31 rfl rfl 0 rfl ?_
        refine get_WC_10_needs (pc1 := 35) C hK kw_144 d_P_inchesTooFew_32 rfl ?_
        refine g_iload_n (pc1 := 36) C d_P_inchesTooFew_35 rfl rfl 2 rfl ?_
        have hg := gd_some hF
        replace hF := hg.2
        refine g_iald (pc1 := 37) C hK 12 (f := (μ.1 12)) rfl hg.1 d_P_inchesTooFew_36 rfl ?_
        refine g_aload_n (pc1 := 38) C d_P_inchesTooFew_37 rfl rfl 0 rfl ?_
        refine get_WC_10_field (pc1 := 41) C hK kw_99 d_P_inchesTooFew_38 rfl ?_
        refine get_WC_1_depths (pc1 := 44) C hK kw_113 d_P_inchesTooFew_41 rfl ?_
        refine g_iload_n (pc1 := 45) C d_P_inchesTooFew_44 rfl rfl 2 rfl ?_
        have hg := gd_some hF
        replace hF := hg.2
        refine g_iald (pc1 := 46) C hK 3 (f := (μ.1 3)) rfl hg.1 d_P_inchesTooFew_45 rfl ?_
        refine g_isub (pc1 := 47) C d_P_inchesTooFew_46 rfl ?_
        refine g_mmax (pc1 := 50) (rest := [.int x1]) C kw_106 (Nat.le_of_ble_eq_true rfl) (Nat.le_of_ble_eq_true rfl) d_P_inchesTooFew_47 rfl ?_
        refine g_goto C 54 d_P_inchesTooFew_50 (by decide) ?_
        refine g_iadd (pc1 := 55) C d_P_inchesTooFew_54 rfl ?_
        refine g_istore_n (pc1 := 56) (L1 := [(1, .int (x1 + (if (0 : Int32) < (((μ.1 12) x2.toNatClampNeg) - ((μ.1 3) x2.toNatClampNeg)) then (((μ.1 12) x2.toNatClampNeg) - ((μ.1 3) x2.toNatClampNeg)) else (0 : Int32)))), (0, .ref (a 10)), (2, .int x2)]) C d_P_inchesTooFew_55 rfl rfl (by decide) rfl ?_
        refine g_iinc (pc1 := 59) (v := (x2 + (1 : Int32))) (L1 := [(2, .int (x2 + (1 : Int32))), (1, .int (x1 + (if (0 : Int32) < (((μ.1 12) x2.toNatClampNeg) - ((μ.1 3) x2.toNatClampNeg)) then (((μ.1 12) x2.toNatClampNeg) - ((μ.1 3) x2.toNatClampNeg)) else (0 : Int32)))), (0, .ref (a 10))]) C d_P_inchesTooFew_56 rfl 2 rfl (by rw [ic_1]) (by decide) rfl ?_
        refine g_goto C 4 d_P_inchesTooFew_59 (by decide) ?_
        exact g_sub [2, 1, 0] rfl (hK4 (x1 + (if (0 : Int32) < (((μ.1 12) x2.toNatClampNeg) - ((μ.1 3) x2.toNatClampNeg)) then (((μ.1 12) x2.toNatClampNeg) - ((μ.1 3) x2.toNatClampNeg)) else (0 : Int32))) (x2 + (1 : Int32)) hF)
set_option maxHeartbeats 4000000 in
set_option maxRecDepth 100000 in
theorem c_P_inchesTooFew (l : Launch) (D : va_G) (cs : Nat → ClassId) (a : Nat → Nat) (μ : Mem)  (r : Int32) (hF : F_P_inchesTooFew μ = some r) : MetI l y_P_inchesTooFew b_P_inchesTooFew 3 (some .int) { frames := 1, cells := 0, slots := 0, locals := 21 } D cs (AC a) (WC a cs μ) [.ref (a 10)] r (WC a cs μ) := by
  refine met_of rfl (by decide +kernel) (Nat.le_of_ble_eq_true rfl) (fun p e s m below meth c C hK hr hlk => ?_)
  unfold F_P_inchesTooFew at hF
  show G p l e { frames := 1, cells := 0, slots := 0, locals := 21 } s m _ below meth c _ D (AC a) 3 (WC a cs μ) 0 [(0, .ref (a 10))] []
  refine g_iconst (pc1 := 1) (v := (0 : Int32)) C d_P_inchesTooFew_0 rfl ic_0 ?_
  refine g_istore_n (pc1 := 2) (L1 := [(1, .int (0 : Int32)), (0, .ref (a 10))]) C d_P_inchesTooFew_1 rfl rfl (by decide) rfl ?_
  refine g_iconst (pc1 := 3) (v := (0 : Int32)) C d_P_inchesTooFew_2 rfl ic_0 ?_
  refine g_istore_n (pc1 := 4) (L1 := [(2, .int (0 : Int32)), (1, .int (0 : Int32)), (0, .ref (a 10))]) C d_P_inchesTooFew_3 rfl rfl (by decide) rfl ?_
  exact g_sub [2, 1, 0] rfl (p_P_inchesTooFew_4 C hK hr hlk  (0 : Int32) (0 : Int32) hF)
-- TentPegs$Plans.inchesOfAll()I
set_option maxHeartbeats 4000000 in
set_option maxRecDepth 100000 in
theorem p_P_inchesOfAll_4 {p : Program} {l : Launch} {e : Env} {s : State} {m : MethodId} {args : Array Value} {below : List Frame} {meth : Method} {c : Code} {D : va_G} {cs : Nat → ClassId} {a : Nat → Nat} {μ : Mem} {r : Int32} (C : Cx p s m args c b_P_inchesOfAll 3 "TentPegs$Plans") (hK : va_K D classes (tys cs) s) (hr : meth.sig.returnType = (some .int)) (hlk : meth.locks = false)  : ∀ (x1 : Int32) (x2 : Int32), F_P_inchesOfAll_4  μ x1 x2 = some r → G p l e { frames := 1, cells := 0, slots := 0, locals := 21 } s m args below meth c (MQ below (Qi (AC a) D (WC a cs μ) r) args s 0 0 (AC a)) D (AC a) 3 (WC a cs μ) 4 [(0, .ref (a 10)), (1, .int x1), (2, .int x2)] [] := by
  refine iter_ind (fun (K4 : Mem → Int32 → Int32 → Option Int32) => ∀ (x1 : Int32) (x2 : Int32), K4 μ x1 x2 = some r → G p l e { frames := 1, cells := 0, slots := 0, locals := 21 } s m args below meth c (MQ below (Qi (AC a) D (WC a cs μ) r) args s 0 0 (AC a)) D (AC a) 3 (WC a cs μ) 4 [(0, .ref (a 10)), (1, .int x1), (2, .int x2)] []) ?_ ?_ NF
  · intro x1 x2 hF
    exact none_no hF
  · intro K4 hK4 x1 x2 hF
    unfold S_P_inchesOfAll_4 at hF
    refine g_iload_n (pc1 := 5) C d_P_inchesOfAll_4 rfl rfl 2 rfl ?_
    refine g_aload_n (pc1 := 6) C d_P_inchesOfAll_5 rfl rfl 0 rfl ?_
    refine get_WC_10_field (pc1 := 9) C hK kw_99 d_P_inchesOfAll_6 rfl ?_
    refine get_WC_1_pegs (pc1 := 12) C hK (v := (μ.1 1 0)) rfl kw_100 d_P_inchesOfAll_9 rfl ?_
    refine g_icmp_ge (pc1 := 15) C 51 d_P_inchesOfAll_12 rfl (by decide) (fun c1 => ?_) (fun c1 => ?_)
    · replace hF := ite_t hF c1
      refine g_iload_n (pc1 := 52) C d_P_inchesOfAll_51 rfl rfl 1 rfl ?_
      exact g_iret C hr hlk d_P_inchesOfAll_52 (Option.some.inj hF) rfl
    · replace hF := ite_f hF c1
      refine g_iload_n (pc1 := 16) C d_P_inchesOfAll_15 rfl rfl 1 rfl ?_
      refine g_aload_n (pc1 := 17) C d_P_inchesOfAll_16 rfl rfl 0 rfl ?_
      refine get_WC_10_field (pc1 := 20) C hK kw_99 d_P_inchesOfAll_17 rfl ?_
      refine get_WC_1_standing (pc1 := 23) C hK (v := (μ.1 1 3)) rfl kw_137 d_P_inchesOfAll_20 rfl ?_
      refine g_iload_n (pc1 := 24) C d_P_inchesOfAll_23 rfl rfl 2 rfl ?_
      obtain ⟨r1, hr1, hF⟩ := bnd_some hF
      refine g_callNI (pc1 := 27) (As := [.int (μ.1 1 3), .int x2]) (rest := [.int x1]) C 2 (c_T_has l (μ.1 1 3) x2 r1 hr1) s_T_has 10 rfl rfl ⟨Nat.le_of_ble_eq_true rfl, Nat.le_of_ble_eq_true rfl⟩ ⟨rfl, rfl⟩ d_P_inchesOfAll_24 rfl rfl (Nat.le_of_ble_eq_true rfl) ?_
      refine g_if_eq (pc1 := 30) C 42 d_P_inchesOfAll_27 rfl (by decide) (fun c1 => ?_) (fun c1 => ?_)
      · replace hF := ite_t hF c1
        refine g_iconst (pc1 := 43) (v := (0 : Int32)) C d_P_inchesOfAll_42 rfl ic_0 ?_
        refine g_iadd (pc1 := 44) C d_P_inchesOfAll_43 rfl ?_
        refine g_istore_n (pc1 := 45) (L1 := [(1, .int (x1 + (0 : Int32))), (0, .ref (a 10)), (2, .int x2)]) C d_P_inchesOfAll_44 rfl rfl (by decide) rfl ?_
        refine g_iinc (pc1 := 48) (v := (x2 + (1 : Int32))) (L1 := [(2, .int (x2 + (1 : Int32))), (1, .int (x1 + (0 : Int32))), (0, .ref (a 10))]) C d_P_inchesOfAll_45 rfl 2 rfl (by rw [ic_1]) (by decide) rfl ?_
        refine g_goto C 4 d_P_inchesOfAll_48 (by decide) ?_
        exact g_sub [2, 1, 0] rfl (hK4 (x1 + (0 : Int32)) (x2 + (1 : Int32)) hF)
      · replace hF := ite_f hF c1
        refine g_aload_n (pc1 := 31) C d_P_inchesOfAll_30 rfl rfl 0 rfl ?_
        refine get_WC_10_field (pc1 := 34) C hK kw_99 d_P_inchesOfAll_31 rfl ?_
        refine get_WC_1_depths (pc1 := 37) C hK kw_113 d_P_inchesOfAll_34 rfl ?_
        refine g_iload_n (pc1 := 38) C d_P_inchesOfAll_37 rfl rfl 2 rfl ?_
        have hg := gd_some hF
        replace hF := hg.2
        refine g_iald (pc1 := 39) C hK 3 (f := (μ.1 3)) rfl hg.1 d_P_inchesOfAll_38 rfl ?_
        refine g_goto C 43 d_P_inchesOfAll_39 (by decide) ?_
        refine g_iadd (pc1 := 44) C d_P_inchesOfAll_43 rfl ?_
        refine g_istore_n (pc1 := 45) (L1 := [(1, .int (x1 + ((μ.1 3) x2.toNatClampNeg))), (0, .ref (a 10)), (2, .int x2)]) C d_P_inchesOfAll_44 rfl rfl (by decide) rfl ?_
        refine g_iinc (pc1 := 48) (v := (x2 + (1 : Int32))) (L1 := [(2, .int (x2 + (1 : Int32))), (1, .int (x1 + ((μ.1 3) x2.toNatClampNeg))), (0, .ref (a 10))]) C d_P_inchesOfAll_45 rfl 2 rfl (by rw [ic_1]) (by decide) rfl ?_
        refine g_goto C 4 d_P_inchesOfAll_48 (by decide) ?_
        exact g_sub [2, 1, 0] rfl (hK4 (x1 + ((μ.1 3) x2.toNatClampNeg)) (x2 + (1 : Int32)) hF)
set_option maxHeartbeats 4000000 in
set_option maxRecDepth 100000 in
theorem c_P_inchesOfAll (l : Launch) (D : va_G) (cs : Nat → ClassId) (a : Nat → Nat) (μ : Mem)  (r : Int32) (hF : F_P_inchesOfAll μ = some r) : MetI l y_P_inchesOfAll b_P_inchesOfAll 3 (some .int) { frames := 1, cells := 0, slots := 0, locals := 21 } D cs (AC a) (WC a cs μ) [.ref (a 10)] r (WC a cs μ) := by
  refine met_of rfl (by decide +kernel) (Nat.le_of_ble_eq_true rfl) (fun p e s m below meth c C hK hr hlk => ?_)
  unfold F_P_inchesOfAll at hF
  show G p l e { frames := 1, cells := 0, slots := 0, locals := 21 } s m _ below meth c _ D (AC a) 3 (WC a cs μ) 0 [(0, .ref (a 10))] []
  refine g_iconst (pc1 := 1) (v := (0 : Int32)) C d_P_inchesOfAll_0 rfl ic_0 ?_
  refine g_istore_n (pc1 := 2) (L1 := [(1, .int (0 : Int32)), (0, .ref (a 10))]) C d_P_inchesOfAll_1 rfl rfl (by decide) rfl ?_
  refine g_iconst (pc1 := 3) (v := (0 : Int32)) C d_P_inchesOfAll_2 rfl ic_0 ?_
  refine g_istore_n (pc1 := 4) (L1 := [(2, .int (0 : Int32)), (1, .int (0 : Int32)), (0, .ref (a 10))]) C d_P_inchesOfAll_3 rfl rfl (by decide) rfl ?_
  exact g_sub [2, 1, 0] rfl (p_P_inchesOfAll_4 C hK hr hlk  (0 : Int32) (0 : Int32) hF)
-- TentPegs$Plans.balance()I
set_option maxHeartbeats 4000000 in
set_option maxRecDepth 100000 in
theorem p_P_balance_18 {p : Program} {l : Launch} {e : Env} {s : State} {m : MethodId} {args : Array Value} {below : List Frame} {meth : Method} {c : Code} {D : va_G} {cs : Nat → ClassId} {a : Nat → Nat} {μ : Mem} {r : Int32} (C : Cx p s m args c b_P_balance 5 "TentPegs$Plans") (hK : va_K D classes (tys cs) s) (hr : meth.sig.returnType = (some .int)) (hlk : meth.locks = false) (K9 : Mem → Int32 → Int32 → Int32 → Option Int32) (hK9 : ∀ (x1 : Int32) (x2 : Int32) (x3 : Int32), K9 μ x1 x2 x3 = some r → G p l e { frames := 2, cells := 0, slots := 0, locals := 43 } s m args below meth c (MQ below (Qi (AC a) D (WC a cs μ) r) args s 0 0 (AC a)) D (AC a) 5 (WC a cs μ) 9 [(0, .ref (a 10)), (1, .int x1), (2, .int x2), (3, .int x3)] []) : ∀ (x1 : Int32) (x2 : Int32) (x3 : Int32) (x4 : Int32), F_P_balance_18 K9 μ x1 x2 x3 x4 = some r → G p l e { frames := 2, cells := 0, slots := 0, locals := 43 } s m args below meth c (MQ below (Qi (AC a) D (WC a cs μ) r) args s 0 0 (AC a)) D (AC a) 5 (WC a cs μ) 18 [(0, .ref (a 10)), (1, .int x1), (2, .int x2), (3, .int x3), (4, .int x4)] [] := by
  refine iter_ind (fun (K18 : Mem → Int32 → Int32 → Int32 → Int32 → Option Int32) => ∀ (x1 : Int32) (x2 : Int32) (x3 : Int32) (x4 : Int32), K18 μ x1 x2 x3 x4 = some r → G p l e { frames := 2, cells := 0, slots := 0, locals := 43 } s m args below meth c (MQ below (Qi (AC a) D (WC a cs μ) r) args s 0 0 (AC a)) D (AC a) 5 (WC a cs μ) 18 [(0, .ref (a 10)), (1, .int x1), (2, .int x2), (3, .int x3), (4, .int x4)] []) ?_ ?_ NF
  · intro x1 x2 x3 x4 hF
    exact none_no hF
  · intro K18 hK18 x1 x2 x3 x4 hF
    unfold S_P_balance_18 at hF
    refine g_iload (pc1 := 20) C d_P_balance_18 rfl 4 rfl ?_
    refine g_aload_n (pc1 := 21) C d_P_balance_20 rfl rfl 0 rfl ?_
    refine get_WC_10_field (pc1 := 24) C hK kw_99 d_P_balance_21 rfl ?_
    refine get_WC_1_pegs (pc1 := 27) C hK (v := (μ.1 1 0)) rfl kw_100 d_P_balance_24 rfl ?_
    refine g_icmp_ge (pc1 := 30) C 74 d_P_balance_27 rfl (by decide) (fun c1 => ?_) (fun c1 => ?_)
    · replace hF := ite_t hF c1
      refine g_iinc (pc1 := 77) (v := (x3 + (1 : Int32))) (L1 := [(3, .int (x3 + (1 : Int32))), (0, .ref (a 10)), (1, .int x1), (2, .int x2), (4, .int x4)]) C d_P_balance_74 rfl 3 rfl (by rw [ic_1]) (by decide) rfl ?_
      refine g_goto C 9 d_P_balance_77 (by decide) ?_
      exact g_sub [1, 2, 3, 0] rfl (hK9 x1 x2 (x3 + (1 : Int32)) hF)
    · replace hF := ite_f hF c1
      refine g_aload_n (pc1 := 31) C d_P_balance_30 rfl rfl 0 rfl ?_
      refine get_WC_10_field (pc1 := 34) C hK kw_99 d_P_balance_31 rfl ?_
      refine get_WC_1_standing (pc1 := 37) C hK (v := (μ.1 1 3)) rfl kw_137 d_P_balance_34 rfl ?_
      refine g_iload (pc1 := 39) C d_P_balance_37 rfl 4 rfl ?_
      obtain ⟨r1, hr1, hF⟩ := bnd_some hF
      refine g_callNI (pc1 := 42) (As := [.int (μ.1 1 3), .int x4]) (rest := []) C 2 (c_T_has l (μ.1 1 3) x4 r1 hr1) s_T_has 10 rfl rfl ⟨Nat.le_of_ble_eq_true rfl, Nat.le_of_ble_eq_true rfl⟩ ⟨rfl, rfl⟩ d_P_balance_39 rfl rfl (Nat.le_of_ble_eq_true rfl) ?_
      refine g_if_eq (pc1 := 45) C 68 d_P_balance_42 rfl (by decide) (fun c1 => ?_) (fun c1 => ?_)
      · replace hF := ite_t hF c1
        refine g_iinc (pc1 := 71) (v := (x4 + (1 : Int32))) (L1 := [(4, .int (x4 + (1 : Int32))), (0, .ref (a 10)), (1, .int x1), (2, .int x2), (3, .int x3)]) C d_P_balance_68 rfl 4 rfl (by rw [ic_1]) (by decide) rfl ?_
        refine g_goto C 18 d_P_balance_71 (by decide) ?_
        exact g_sub [1, 2, 3, 4, 0] rfl (hK18 x1 x2 x3 (x4 + (1 : Int32)) hF)
      · replace hF := ite_f hF c1
        refine g_aload_n (pc1 := 46) C d_P_balance_45 rfl rfl 0 rfl ?_
        refine get_WC_10_needs (pc1 := 49) C hK kw_144 d_P_balance_46 rfl ?_
        refine g_iload (pc1 := 51) C d_P_balance_49 rfl 4 rfl ?_
        have hg := gd_some hF
        replace hF := hg.2
        refine g_iald (pc1 := 52) C hK 12 (f := (μ.1 12)) rfl hg.1 d_P_balance_51 rfl ?_
        refine g_iload_n (pc1 := 53) C d_P_balance_52 rfl rfl 3 rfl ?_
        refine g_icmp_ne (pc1 := 56) C 68 d_P_balance_53 rfl (by decide) (fun c1 => ?_) (fun c1 => ?_)
        · replace hF := ite_f hF c1
          refine g_iinc (pc1 := 71) (v := (x4 + (1 : Int32))) (L1 := [(4, .int (x4 + (1 : Int32))), (0, .ref (a 10)), (1, .int x1), (2, .int x2), (3, .int x3)]) C d_P_balance_68 rfl 4 rfl (by rw [ic_1]) (by decide) rfl ?_
          refine g_goto C 18 d_P_balance_71 (by decide) ?_
          exact g_sub [1, 2, 3, 4, 0] rfl (hK18 x1 x2 x3 (x4 + (1 : Int32)) hF)
        · replace hF := ite_t hF c1
          refine g_iload_n (pc1 := 57) C d_P_balance_56 rfl rfl 1 rfl ?_
          refine g_iload_n (pc1 := 58) C d_P_balance_57 rfl rfl 3 rfl ?_
          refine g_icmp_lt (pc1 := 61) C 68 d_P_balance_58 rfl (by decide) (fun c1 => ?_) (fun c1 => ?_)
          · replace hF := ite_t hF c1
            refine g_iinc (pc1 := 71) (v := (x4 + (1 : Int32))) (L1 := [(4, .int (x4 + (1 : Int32))), (0, .ref (a 10)), (1, .int x1), (2, .int x2), (3, .int x3)]) C d_P_balance_68 rfl 4 rfl (by rw [ic_1]) (by decide) rfl ?_
            refine g_goto C 18 d_P_balance_71 (by decide) ?_
            exact g_sub [1, 2, 3, 4, 0] rfl (hK18 x1 x2 x3 (x4 + (1 : Int32)) hF)
          · replace hF := ite_f hF c1
            refine g_iload_n (pc1 := 62) C d_P_balance_61 rfl rfl 1 rfl ?_
            refine g_iload_n (pc1 := 63) C d_P_balance_62 rfl rfl 3 rfl ?_
            refine g_isub (pc1 := 64) C d_P_balance_63 rfl ?_
            refine g_istore_n (pc1 := 65) (L1 := [(1, .int (x1 - x3)), (0, .ref (a 10)), (2, .int x2), (3, .int x3), (4, .int x4)]) C d_P_balance_64 rfl rfl (by decide) rfl ?_
            refine g_iinc (pc1 := 68) (v := (x2 + (1 : Int32))) (L1 := [(2, .int (x2 + (1 : Int32))), (1, .int (x1 - x3)), (0, .ref (a 10)), (3, .int x3), (4, .int x4)]) C d_P_balance_65 rfl 2 rfl (by rw [ic_1]) (by decide) rfl ?_
            refine g_iinc (pc1 := 71) (v := (x4 + (1 : Int32))) (L1 := [(4, .int (x4 + (1 : Int32))), (2, .int (x2 + (1 : Int32))), (1, .int (x1 - x3)), (0, .ref (a 10)), (3, .int x3)]) C d_P_balance_68 rfl 4 rfl (by rw [ic_1]) (by decide) rfl ?_
            refine g_goto C 18 d_P_balance_71 (by decide) ?_
            exact g_sub [3, 2, 1, 4, 0] rfl (hK18 (x1 - x3) (x2 + (1 : Int32)) x3 (x4 + (1 : Int32)) hF)
set_option maxHeartbeats 4000000 in
set_option maxRecDepth 100000 in
theorem p_P_balance_9 {p : Program} {l : Launch} {e : Env} {s : State} {m : MethodId} {args : Array Value} {below : List Frame} {meth : Method} {c : Code} {D : va_G} {cs : Nat → ClassId} {a : Nat → Nat} {μ : Mem} {r : Int32} (C : Cx p s m args c b_P_balance 5 "TentPegs$Plans") (hK : va_K D classes (tys cs) s) (hr : meth.sig.returnType = (some .int)) (hlk : meth.locks = false)  : ∀ (x1 : Int32) (x2 : Int32) (x3 : Int32), F_P_balance_9  μ x1 x2 x3 = some r → G p l e { frames := 2, cells := 0, slots := 0, locals := 43 } s m args below meth c (MQ below (Qi (AC a) D (WC a cs μ) r) args s 0 0 (AC a)) D (AC a) 5 (WC a cs μ) 9 [(0, .ref (a 10)), (1, .int x1), (2, .int x2), (3, .int x3)] [] := by
  refine iter_ind (fun (K9 : Mem → Int32 → Int32 → Int32 → Option Int32) => ∀ (x1 : Int32) (x2 : Int32) (x3 : Int32), K9 μ x1 x2 x3 = some r → G p l e { frames := 2, cells := 0, slots := 0, locals := 43 } s m args below meth c (MQ below (Qi (AC a) D (WC a cs μ) r) args s 0 0 (AC a)) D (AC a) 5 (WC a cs μ) 9 [(0, .ref (a 10)), (1, .int x1), (2, .int x2), (3, .int x3)] []) ?_ ?_ NF
  · intro x1 x2 x3 hF
    exact none_no hF
  · intro K9 hK9 x1 x2 x3 hF
    unfold S_P_balance_9 at hF
    refine g_iload_n (pc1 := 10) C d_P_balance_9 rfl rfl 3 rfl ?_
    refine g_bipush (pc1 := 12) (v := (9 : Int32)) C d_P_balance_10 rfl bp_9 ?_
    refine g_icmp_gt (pc1 := 15) C 80 d_P_balance_12 rfl (by decide) (fun c1 => ?_) (fun c1 => ?_)
    · replace hF := ite_t hF c1
      refine g_iload_n (pc1 := 81) C d_P_balance_80 rfl rfl 2 rfl ?_
      exact g_iret C hr hlk d_P_balance_81 (Option.some.inj hF) rfl
    · replace hF := ite_f hF c1
      refine g_iconst (pc1 := 16) (v := (0 : Int32)) C d_P_balance_15 rfl ic_0 ?_
      refine g_istore (pc1 := 18) (L1 := [(4, .int (0 : Int32)), (0, .ref (a 10)), (1, .int x1), (2, .int x2), (3, .int x3)]) C d_P_balance_16 rfl (by decide) rfl ?_
      exact g_sub [1, 2, 3, 4, 0] rfl (p_P_balance_18 C hK hr hlk K9 hK9 x1 x2 x3 (0 : Int32) hF)
set_option maxHeartbeats 4000000 in
set_option maxRecDepth 100000 in
theorem c_P_balance (l : Launch) (D : va_G) (cs : Nat → ClassId) (a : Nat → Nat) (μ : Mem)  (r : Int32) (hF : F_P_balance μ = some r) : MetI l y_P_balance b_P_balance 5 (some .int) { frames := 2, cells := 0, slots := 0, locals := 43 } D cs (AC a) (WC a cs μ) [.ref (a 10)] r (WC a cs μ) := by
  refine met_of rfl (by decide +kernel) (Nat.le_of_ble_eq_true rfl) (fun p e s m below meth c C hK hr hlk => ?_)
  unfold F_P_balance at hF
  show G p l e { frames := 2, cells := 0, slots := 0, locals := 43 } s m _ below meth c _ D (AC a) 5 (WC a cs μ) 0 [(0, .ref (a 10))] []
  refine g_aload_n (pc1 := 1) C d_P_balance_0 rfl rfl 0 rfl ?_
  obtain ⟨r1, hr1, hF⟩ := bnd_some hF
  refine g_callVI (pc1 := 4) (ws1 := WC a cs μ) (As := []) (rest := []) (b := a 10) C hK 0 (c_P_inchesOfAll l D cs a μ  r1 hr1) s_P_inchesOfAll kw_145 10 rfl rfl rfl ⟨Nat.le_of_ble_eq_true rfl, Nat.le_of_ble_eq_true rfl⟩ ⟨rfl, rfl⟩ d_P_balance_1 rfl rfl (Nat.le_of_ble_eq_true rfl) ?_
  refine g_istore_n (pc1 := 5) (L1 := [(1, .int r1), (0, .ref (a 10))]) C d_P_balance_4 rfl rfl (by decide) rfl ?_
  refine g_iconst (pc1 := 6) (v := (0 : Int32)) C d_P_balance_5 rfl ic_0 ?_
  refine g_istore_n (pc1 := 7) (L1 := [(2, .int (0 : Int32)), (1, .int r1), (0, .ref (a 10))]) C d_P_balance_6 rfl rfl (by decide) rfl ?_
  refine g_iconst (pc1 := 8) (v := (0 : Int32)) C d_P_balance_7 rfl ic_0 ?_
  refine g_istore_n (pc1 := 9) (L1 := [(3, .int (0 : Int32)), (2, .int (0 : Int32)), (1, .int r1), (0, .ref (a 10))]) C d_P_balance_8 rfl rfl (by decide) rfl ?_
  exact g_sub [3, 2, 1, 0] rfl (p_P_balance_9 C hK hr hlk  r1 (0 : Int32) (0 : Int32) hF)
-- TentPegs.lent(III)I
set_option maxHeartbeats 4000000 in
set_option maxRecDepth 100000 in
theorem p_T_lent_17 {p : Program} {l : Launch} {e : Env} {s : State} {m : MethodId} {args : Array Value} {below : List Frame} {meth : Method} {c : Code} {D : va_G} {cs : Nat → ClassId} {a : Nat → Nat} {r : Int32} {μ1 : Mem} (C : Cx p s m args c b_T_lent 4 "TentPegs") (hK : va_K D classes (tys cs) s) (hr : meth.sig.returnType = (some .int)) (hlk : meth.locks = false)  (μ : Mem)  (hF : F_T_lent_17  μ = some (r, μ1)) : G p l e { frames := 5, cells := 0, slots := 0, locals := 113 } s m args below meth c (MQ below (Qi (AC a) D (WC a cs μ1) r) args s 0 0 (AC a)) D (AC a) 4 (WC a cs μ) 17 [(0, .ref (a 0))] [] := by
  unfold F_T_lent_17 at hF
  refine g_aload_n (pc1 := 18) C d_T_lent_17 rfl rfl 0 rfl ?_
  refine g_bipush (pc1 := 20) (v := (-10 : Int32)) C d_T_lent_18 rfl bp_m10 ?_
  obtain ⟨⟨r1, m1⟩, hm1, hF⟩ := bnd_some hF
  refine g_callVI (pc1 := 23) (ws1 := WC a cs m1) (As := [.int (-10 : Int32)]) (rest := []) (b := a 0) C hK 1 (c_T_bad l D cs a μ (-10 : Int32) r1 m1 hm1) s_T_bad kw_15 0 rfl rfl rfl ⟨Nat.le_of_ble_eq_true rfl, Nat.le_of_ble_eq_true rfl⟩ ⟨rfl, rfl⟩ d_T_lent_20 rfl rfl (Nat.le_of_ble_eq_true rfl) ?_
  exact g_iret C hr hlk d_T_lent_23 (fst_of hF) (congrArg (WC a cs) (snd_of hF))
set_option maxHeartbeats 4000000 in
set_option maxRecDepth 100000 in
theorem c_T_lent (l : Launch) (D : va_G) (cs : Nat → ClassId) (a : Nat → Nat) (μ : Mem) (x1 : Int32) (x2 : Int32) (x3 : Int32) (r : Int32) (μ1 : Mem) (hF : F_T_lent μ x1 x2 x3 = some (r, μ1)) : MetI l y_T_lent b_T_lent 4 (some .int) { frames := 5, cells := 0, slots := 0, locals := 113 } D cs (AC a) (WC a cs μ) [.ref (a 0), .int x1, .int x2, .int x3] r (WC a cs μ1) := by
  refine met_of rfl (by decide +kernel) (Nat.le_of_ble_eq_true rfl) (fun p e s m below meth c C hK hr hlk => ?_)
  unfold F_T_lent at hF
  show G p l e { frames := 5, cells := 0, slots := 0, locals := 113 } s m _ below meth c _ D (AC a) 4 (WC a cs μ) 0 [(0, .ref (a 0)), (1, .int x1), (2, .int x2), (3, .int x3)] []
  refine g_iload_n (pc1 := 1) C d_T_lent_0 rfl rfl 1 rfl ?_
  refine g_iload_n (pc1 := 2) C d_T_lent_1 rfl rfl 2 rfl ?_
  obtain ⟨r1, hr1, hF⟩ := bnd_some hF
  refine g_callSI (pc1 := 5) (As := [.int x1, .int x2]) (rest := []) C 2 (c_T_isGust l x1 x2 r1 hr1) s_T_isGust kw_77 rfl ⟨Nat.le_of_ble_eq_true rfl, Nat.le_of_ble_eq_true rfl⟩ ⟨rfl, rfl⟩ d_T_lent_2 rfl rfl (Nat.le_of_ble_eq_true rfl) ?_
  refine g_if_eq (pc1 := 8) C 17 d_T_lent_5 rfl (by decide) (fun c1 => ?_) (fun c1 => ?_)
  · replace hF := ite_t hF c1
    exact g_sub [0] rfl (p_T_lent_17 C hK hr hlk  μ hF)
  · replace hF := ite_f hF c1
    refine g_iload_n (pc1 := 9) C d_T_lent_8 rfl rfl 3 rfl ?_
    refine g_iconst (pc1 := 10) (v := (0 : Int32)) C d_T_lent_9 rfl ic_0 ?_
    refine g_iconst (pc1 := 11) (v := (2 : Int32)) C d_T_lent_10 rfl ic_2 ?_
    obtain ⟨r2, hr2, hF⟩ := bnd_some hF
    refine g_callSI (pc1 := 14) (As := [.int x3, .int (0 : Int32), .int (2 : Int32)]) (rest := []) C 3 (c_T_within l x3 (0 : Int32) (2 : Int32) r2 hr2) s_T_within kw_22 rfl ⟨Nat.le_of_ble_eq_true rfl, Nat.le_of_ble_eq_true rfl⟩ ⟨rfl, rfl⟩ d_T_lent_11 rfl rfl (Nat.le_of_ble_eq_true rfl) ?_
    refine g_if_ne (pc1 := 17) C 24 d_T_lent_14 rfl (by decide) (fun c1 => ?_) (fun c1 => ?_)
    · replace hF := ite_f hF c1
      refine g_aload_n (pc1 := 25) C d_T_lent_24 rfl rfl 0 rfl ?_
      obtain ⟨m3, hm3, hF⟩ := bnd_some hF
      refine g_callVR (pc1 := 28) (ws1 := WC a cs m3) (As := []) (rest := []) (b := a 0) C hK 0 (c_T_asItIs l D cs a μ  m3 hm3) s_T_asItIs kw_81 0 rfl rfl rfl ⟨Nat.le_of_ble_eq_true rfl, Nat.le_of_ble_eq_true rfl⟩ ⟨rfl, rfl⟩ d_T_lent_25 rfl rfl (Nat.le_of_ble_eq_true rfl) ?_
      refine g_pop (pc1 := 29) C d_T_lent_28 rfl rfl ?_
      refine g_aload_n (pc1 := 30) C d_T_lent_29 rfl rfl 0 rfl ?_
      refine get_WC_0_plans (pc1 := 33) C hK kw_107 d_T_lent_30 rfl ?_
      refine g_iload_n (pc1 := 34) C d_T_lent_33 rfl rfl 1 rfl ?_
      refine g_iload_n (pc1 := 35) C d_T_lent_34 rfl rfl 2 rfl ?_
      obtain ⟨m4, hm4, hF⟩ := bnd_some hF
      refine g_callVV (pc1 := 38) (ws1 := WC a cs m4) (As := [.int x1, .int x2]) (rest := []) (b := a 10) C hK 2 (c_P_seeNeeds l D cs a m3 x1 x2 m4 hm4) s_P_seeNeeds kw_146 10 rfl rfl rfl ⟨Nat.le_of_ble_eq_true rfl, Nat.le_of_ble_eq_true rfl⟩ ⟨rfl, rfl⟩ d_T_lent_35 rfl rfl (Nat.le_of_ble_eq_true rfl) ?_
      refine g_iload_n (pc1 := 39) C d_T_lent_38 rfl rfl 3 rfl ?_
      by_cases h0 : x3 = (0 : Int32)
      · replace hF := ite_t hF h0
        refine g_look C 64 d_T_lent_39 rfl (by rw [h0, ti_0] <;> rfl) (by decide) ?_
        refine g_aload_n (pc1 := 65) C d_T_lent_64 rfl rfl 0 rfl ?_
        refine get_WC_0_plans (pc1 := 68) C hK kw_107 d_T_lent_65 rfl ?_
        obtain ⟨r5, hr5, hF⟩ := bnd_some hF
        refine g_callVI (pc1 := 71) (ws1 := WC a cs m4) (As := []) (rest := []) (b := a 10) C hK 0 (c_P_inchesTooMany l D cs a m4  r5 hr5) s_P_inchesTooMany kw_147 10 rfl rfl rfl ⟨Nat.le_of_ble_eq_true rfl, Nat.le_of_ble_eq_true rfl⟩ ⟨rfl, rfl⟩ d_T_lent_68 rfl rfl (Nat.le_of_ble_eq_true rfl) ?_
        exact g_iret C hr hlk d_T_lent_71 (fst_of hF) (congrArg (WC a cs) (snd_of hF))
      replace hF := ite_f hF h0
      by_cases h1 : x3 = (1 : Int32)
      · replace hF := ite_t hF h1
        refine g_look C 72 d_T_lent_39 rfl (by rw [h1, ti_1] <;> rfl) (by decide) ?_
        refine g_aload_n (pc1 := 73) C d_T_lent_72 rfl rfl 0 rfl ?_
        refine get_WC_0_plans (pc1 := 76) C hK kw_107 d_T_lent_73 rfl ?_
        obtain ⟨r6, hr6, hF⟩ := bnd_some hF
        refine g_callVI (pc1 := 79) (ws1 := WC a cs m4) (As := []) (rest := []) (b := a 10) C hK 0 (c_P_inchesTooFew l D cs a m4  r6 hr6) s_P_inchesTooFew kw_148 10 rfl rfl rfl ⟨Nat.le_of_ble_eq_true rfl, Nat.le_of_ble_eq_true rfl⟩ ⟨rfl, rfl⟩ d_T_lent_76 rfl rfl (Nat.le_of_ble_eq_true rfl) ?_
        exact g_iret C hr hlk d_T_lent_79 (fst_of hF) (congrArg (WC a cs) (snd_of hF))
      replace hF := ite_f hF h1
      refine g_look (off := 41) C 80 d_T_lent_39 rfl ((lv_osw h0 ti_0).trans ((lv_osw h1 ti_1).trans (rfl))) (by decide) ?_
      refine g_aload_n (pc1 := 81) C d_T_lent_80 rfl rfl 0 rfl ?_
      refine get_WC_0_plans (pc1 := 84) C hK kw_107 d_T_lent_81 rfl ?_
      obtain ⟨r7, hr7, hF⟩ := bnd_some hF
      refine g_callVI (pc1 := 87) (ws1 := WC a cs m4) (As := []) (rest := []) (b := a 10) C hK 0 (c_P_balance l D cs a m4  r7 hr7) s_P_balance kw_149 10 rfl rfl rfl ⟨Nat.le_of_ble_eq_true rfl, Nat.le_of_ble_eq_true rfl⟩ ⟨rfl, rfl⟩ d_T_lent_84 rfl rfl (Nat.le_of_ble_eq_true rfl) ?_
      exact g_iret C hr hlk d_T_lent_87 (fst_of hF) (congrArg (WC a cs) (snd_of hF))
    · replace hF := ite_t hF c1
      exact g_sub [0] rfl (p_T_lent_17 C hK hr hlk  μ hF)
-- TentPegs$Gale.mostPull(II)I
set_option maxHeartbeats 4000000 in
set_option maxRecDepth 100000 in
theorem p_G_mostPull_5 {p : Program} {l : Launch} {e : Env} {s : State} {m : MethodId} {args : Array Value} {below : List Frame} {meth : Method} {c : Code} {D : va_G} {cs : Nat → ClassId} {a : Nat → Nat} {μ : Mem} {r : Int32} (C : Cx p s m args c b_G_mostPull 5 "TentPegs$Gale") (hK : va_K D classes (tys cs) s) (hr : meth.sig.returnType = (some .int)) (hlk : meth.locks = false)  : ∀ (x1 : Int32) (x2 : Int32) (x3 : Int32) (x4 : Int32), F_G_mostPull_5  μ x1 x2 x3 x4 = some r → G p l e { frames := 3, cells := 0, slots := 0, locals := 67 } s m args below meth c (MQ below (Qi (AC a) D (WC a cs μ) r) args s 0 0 (AC a)) D (AC a) 5 (WC a cs μ) 5 [(0, .ref (a 7)), (1, .int x1), (2, .int x2), (3, .int x3), (4, .int x4)] [] := by
  refine iter_ind (fun (K5 : Mem → Int32 → Int32 → Int32 → Int32 → Option Int32) => ∀ (x1 : Int32) (x2 : Int32) (x3 : Int32) (x4 : Int32), K5 μ x1 x2 x3 x4 = some r → G p l e { frames := 3, cells := 0, slots := 0, locals := 67 } s m args below meth c (MQ below (Qi (AC a) D (WC a cs μ) r) args s 0 0 (AC a)) D (AC a) 5 (WC a cs μ) 5 [(0, .ref (a 7)), (1, .int x1), (2, .int x2), (3, .int x3), (4, .int x4)] []) ?_ ?_ NF
  · intro x1 x2 x3 x4 hF
    exact none_no hF
  · intro K5 hK5 x1 x2 x3 x4 hF
    unfold S_G_mostPull_5 at hF
    refine g_iload (pc1 := 7) C d_G_mostPull_5 rfl 4 rfl ?_
    refine g_aload_n (pc1 := 8) C d_G_mostPull_7 rfl rfl 0 rfl ?_
    refine get_WC_7_field (pc1 := 11) C hK kw_44 d_G_mostPull_8 rfl ?_
    refine get_WC_1_pegs (pc1 := 14) C hK (v := (μ.1 1 0)) rfl kw_53 d_G_mostPull_11 rfl ?_
    refine g_icmp_ge (pc1 := 17) C 36 d_G_mostPull_14 rfl (by decide) (fun c1 => ?_) (fun c1 => ?_)
    · replace hF := ite_t hF c1
      refine g_iload_n (pc1 := 37) C d_G_mostPull_36 rfl rfl 3 rfl ?_
      exact g_iret C hr hlk d_G_mostPull_37 (Option.some.inj hF) rfl
    · replace hF := ite_f hF c1
      refine g_iload_n (pc1 := 18) C d_G_mostPull_17 rfl rfl 3 rfl ?_
      refine g_aload_n (pc1 := 19) C d_G_mostPull_18 rfl rfl 0 rfl ?_
      refine g_iload (pc1 := 21) C d_G_mostPull_19 rfl 4 rfl ?_
      refine g_iload_n (pc1 := 22) C d_G_mostPull_21 rfl rfl 1 rfl ?_
      refine g_iload_n (pc1 := 23) C d_G_mostPull_22 rfl rfl 2 rfl ?_
      obtain ⟨r1, hr1, hF⟩ := bnd_some hF
      refine g_callVI (pc1 := 26) (ws1 := WC a cs μ) (As := [.int x4, .int x1, .int x2]) (rest := [.int x3]) (b := a 7) C hK 3 (c_G_pullOn l D cs a μ x4 x1 x2 r1 hr1) s_G_pullOn kw_73 7 rfl rfl rfl ⟨Nat.le_of_ble_eq_true rfl, Nat.le_of_ble_eq_true rfl⟩ ⟨rfl, rfl⟩ d_G_mostPull_23 rfl rfl (Nat.le_of_ble_eq_true rfl) ?_
      refine g_mmax (pc1 := 29) (rest := []) C kw_63 (Nat.le_of_ble_eq_true rfl) (Nat.le_of_ble_eq_true rfl) d_G_mostPull_26 rfl ?_
      refine g_istore_n (pc1 := 30) (L1 := [(3, .int (if x3 < r1 then r1 else x3)), (0, .ref (a 7)), (1, .int x1), (2, .int x2), (4, .int x4)]) C d_G_mostPull_29 rfl rfl (by decide) rfl ?_
      refine g_iinc (pc1 := 33) (v := (x4 + (1 : Int32))) (L1 := [(4, .int (x4 + (1 : Int32))), (3, .int (if x3 < r1 then r1 else x3)), (0, .ref (a 7)), (1, .int x1), (2, .int x2)]) C d_G_mostPull_30 rfl 4 rfl (by rw [ic_1]) (by decide) rfl ?_
      refine g_goto C 5 d_G_mostPull_33 (by decide) ?_
      exact g_sub [2, 3, 4, 1, 0] rfl (hK5 x1 x2 (if x3 < r1 then r1 else x3) (x4 + (1 : Int32)) hF)
set_option maxHeartbeats 4000000 in
set_option maxRecDepth 100000 in
theorem c_G_mostPull (l : Launch) (D : va_G) (cs : Nat → ClassId) (a : Nat → Nat) (μ : Mem) (x1 : Int32) (x2 : Int32) (r : Int32) (hF : F_G_mostPull μ x1 x2 = some r) : MetI l y_G_mostPull b_G_mostPull 5 (some .int) { frames := 3, cells := 0, slots := 0, locals := 67 } D cs (AC a) (WC a cs μ) [.ref (a 7), .int x1, .int x2] r (WC a cs μ) := by
  refine met_of rfl (by decide +kernel) (Nat.le_of_ble_eq_true rfl) (fun p e s m below meth c C hK hr hlk => ?_)
  unfold F_G_mostPull at hF
  show G p l e { frames := 3, cells := 0, slots := 0, locals := 67 } s m _ below meth c _ D (AC a) 5 (WC a cs μ) 0 [(0, .ref (a 7)), (1, .int x1), (2, .int x2)] []
  refine g_iconst (pc1 := 1) (v := (0 : Int32)) C d_G_mostPull_0 rfl ic_0 ?_
  refine g_istore_n (pc1 := 2) (L1 := [(3, .int (0 : Int32)), (0, .ref (a 7)), (1, .int x1), (2, .int x2)]) C d_G_mostPull_1 rfl rfl (by decide) rfl ?_
  refine g_iconst (pc1 := 3) (v := (0 : Int32)) C d_G_mostPull_2 rfl ic_0 ?_
  refine g_istore (pc1 := 5) (L1 := [(4, .int (0 : Int32)), (3, .int (0 : Int32)), (0, .ref (a 7)), (1, .int x1), (2, .int x2)]) C d_G_mostPull_3 rfl (by decide) rfl ?_
  exact g_sub [2, 3, 4, 1, 0] rfl (p_G_mostPull_5 C hK hr hlk  x1 x2 (0 : Int32) (0 : Int32) hF)
-- TentPegs.pence(III)I
set_option maxHeartbeats 4000000 in
set_option maxRecDepth 100000 in
theorem p_T_pence_18 {p : Program} {l : Launch} {e : Env} {s : State} {m : MethodId} {args : Array Value} {below : List Frame} {meth : Method} {c : Code} {D : va_G} {cs : Nat → ClassId} {a : Nat → Nat} {r : Int32} {μ1 : Mem} (C : Cx p s m args c b_T_pence 5 "TentPegs") (hK : va_K D classes (tys cs) s) (hr : meth.sig.returnType = (some .int)) (hlk : meth.locks = false)  (μ : Mem)  (hF : F_T_pence_18  μ = some (r, μ1)) : G p l e { frames := 4, cells := 0, slots := 0, locals := 91 } s m args below meth c (MQ below (Qi (AC a) D (WC a cs μ1) r) args s 0 0 (AC a)) D (AC a) 5 (WC a cs μ) 18 [(0, .ref (a 0))] [] := by
  unfold F_T_pence_18 at hF
  refine g_aload_n (pc1 := 19) C d_T_pence_18 rfl rfl 0 rfl ?_
  refine g_bipush (pc1 := 21) (v := (-2 : Int32)) C d_T_pence_19 rfl bp_m2 ?_
  obtain ⟨⟨r1, m1⟩, hm1, hF⟩ := bnd_some hF
  refine g_callVI (pc1 := 24) (ws1 := WC a cs m1) (As := [.int (-2 : Int32)]) (rest := []) (b := a 0) C hK 1 (c_T_bad l D cs a μ (-2 : Int32) r1 m1 hm1) s_T_bad kw_15 0 rfl rfl rfl ⟨Nat.le_of_ble_eq_true rfl, Nat.le_of_ble_eq_true rfl⟩ ⟨rfl, rfl⟩ d_T_pence_21 rfl rfl (Nat.le_of_ble_eq_true rfl) ?_
  exact g_iret C hr hlk d_T_pence_24 (fst_of hF) (congrArg (WC a cs) (snd_of hF))
set_option maxHeartbeats 4000000 in
set_option maxRecDepth 100000 in
theorem c_T_pence (l : Launch) (D : va_G) (cs : Nat → ClassId) (a : Nat → Nat) (μ : Mem) (x1 : Int32) (x2 : Int32) (x3 : Int32) (r : Int32) (μ1 : Mem) (hF : F_T_pence μ x1 x2 x3 = some (r, μ1)) : MetI l y_T_pence b_T_pence 5 (some .int) { frames := 4, cells := 0, slots := 0, locals := 91 } D cs (AC a) (WC a cs μ) [.ref (a 0), .int x1, .int x2, .int x3] r (WC a cs μ1) := by
  refine met_of rfl (by decide +kernel) (Nat.le_of_ble_eq_true rfl) (fun p e s m below meth c C hK hr hlk => ?_)
  unfold F_T_pence at hF
  show G p l e { frames := 4, cells := 0, slots := 0, locals := 91 } s m _ below meth c _ D (AC a) 5 (WC a cs μ) 0 [(0, .ref (a 0)), (1, .int x1), (2, .int x2), (3, .int x3)] []
  refine g_iload_n (pc1 := 1) C d_T_pence_0 rfl rfl 1 rfl ?_
  refine g_iload_n (pc1 := 2) C d_T_pence_1 rfl rfl 2 rfl ?_
  obtain ⟨r1, hr1, hF⟩ := bnd_some hF
  refine g_callSI (pc1 := 5) (As := [.int x1, .int x2]) (rest := []) C 2 (c_T_isGust l x1 x2 r1 hr1) s_T_isGust kw_77 rfl ⟨Nat.le_of_ble_eq_true rfl, Nat.le_of_ble_eq_true rfl⟩ ⟨rfl, rfl⟩ d_T_pence_2 rfl rfl (Nat.le_of_ble_eq_true rfl) ?_
  refine g_if_eq (pc1 := 8) C 18 d_T_pence_5 rfl (by decide) (fun c1 => ?_) (fun c1 => ?_)
  · replace hF := ite_t hF c1
    exact g_sub [0] rfl (p_T_pence_18 C hK hr hlk  μ hF)
  · replace hF := ite_f hF c1
    refine g_iload_n (pc1 := 9) C d_T_pence_8 rfl rfl 3 rfl ?_
    refine g_iconst (pc1 := 10) (v := (1 : Int32)) C d_T_pence_9 rfl ic_1 ?_
    refine g_bipush (pc1 := 12) (v := (20 : Int32)) C d_T_pence_10 rfl bp_20 ?_
    obtain ⟨r2, hr2, hF⟩ := bnd_some hF
    refine g_callSI (pc1 := 15) (As := [.int x3, .int (1 : Int32), .int (20 : Int32)]) (rest := []) C 3 (c_T_within l x3 (1 : Int32) (20 : Int32) r2 hr2) s_T_within kw_22 rfl ⟨Nat.le_of_ble_eq_true rfl, Nat.le_of_ble_eq_true rfl⟩ ⟨rfl, rfl⟩ d_T_pence_12 rfl rfl (Nat.le_of_ble_eq_true rfl) ?_
    refine g_if_ne (pc1 := 18) C 25 d_T_pence_15 rfl (by decide) (fun c1 => ?_) (fun c1 => ?_)
    · replace hF := ite_f hF c1
      refine g_iconst (pc1 := 26) (v := (1 : Int32)) C d_T_pence_25 rfl ic_1 ?_
      refine g_aload_n (pc1 := 27) C d_T_pence_26 rfl rfl 0 rfl ?_
      obtain ⟨m3, hm3, hF⟩ := bnd_some hF
      refine g_callVR (pc1 := 30) (ws1 := WC a cs m3) (As := []) (rest := [.int (1 : Int32)]) (b := a 0) C hK 0 (c_T_asItIs l D cs a μ  m3 hm3) s_T_asItIs kw_81 0 rfl rfl rfl ⟨Nat.le_of_ble_eq_true rfl, Nat.le_of_ble_eq_true rfl⟩ ⟨rfl, rfl⟩ d_T_pence_27 rfl rfl (Nat.le_of_ble_eq_true rfl) ?_
      refine g_iload_n (pc1 := 31) C d_T_pence_30 rfl rfl 1 rfl ?_
      refine g_iload_n (pc1 := 32) C d_T_pence_31 rfl rfl 2 rfl ?_
      obtain ⟨r4, hr4, hF⟩ := bnd_some hF
      refine g_callVI (pc1 := 35) (ws1 := WC a cs m3) (As := [.int x1, .int x2]) (rest := [.int (1 : Int32)]) (b := a 7) C hK 2 (c_G_mostPull l D cs a m3 x1 x2 r4 hr4) s_G_mostPull kw_150 7 rfl rfl rfl ⟨Nat.le_of_ble_eq_true rfl, Nat.le_of_ble_eq_true rfl⟩ ⟨rfl, rfl⟩ d_T_pence_32 rfl rfl (Nat.le_of_ble_eq_true rfl) ?_
      refine g_mmax (pc1 := 38) (rest := []) C kw_151 (Nat.le_of_ble_eq_true rfl) (Nat.le_of_ble_eq_true rfl) d_T_pence_35 rfl ?_
      refine g_istore (pc1 := 40) (L1 := [(4, .int (if (1 : Int32) < r4 then r4 else (1 : Int32))), (0, .ref (a 0)), (1, .int x1), (2, .int x2), (3, .int x3)]) C d_T_pence_38 rfl (by decide) rfl ?_
      refine g_iload (pc1 := 42) C d_T_pence_40 rfl 0 rfl ?_
      refine g_iload_n (pc1 := 43) C d_T_pence_42 rfl rfl 4 rfl ?_
      refine g_imul (pc1 := 44) C d_T_pence_43 rfl ?_
      refine g_aload_n (pc1 := 45) C d_T_pence_44 rfl rfl 1 rfl ?_
      refine get_WC_0_field (pc1 := 48) C hK kw_12 d_T_pence_45 rfl ?_
      refine get_WC_1_standing (pc1 := 51) C hK (v := (m3.1 1 3)) rfl kw_78 d_T_pence_48 rfl ?_
      obtain ⟨r5, hr5, hF⟩ := bnd_some hF
      refine g_callSI (pc1 := 54) (As := [.int (m3.1 1 3)]) (rest := [.int ((if (1 : Int32) < r4 then r4 else (1 : Int32)) * x3)]) C 1 (c_JI_bitCount l (m3.1 1 3) r5 hr5) s_JI_bitCount kw_38 rfl ⟨Nat.le_of_ble_eq_true rfl, Nat.le_of_ble_eq_true rfl⟩ ⟨rfl, rfl⟩ d_T_pence_51 rfl rfl (Nat.le_of_ble_eq_true rfl) ?_
      refine g_imul (pc1 := 55) C d_T_pence_54 rfl ?_
      exact g_iret C hr hlk d_T_pence_55 (fst_of hF) (congrArg (WC a cs) (snd_of hF))
    · replace hF := ite_t hF c1
      exact g_sub [0] rfl (p_T_pence_18 C hK hr hlk  μ hF)
-- TentPegs.isNight(III)Z
set_option maxHeartbeats 4000000 in
set_option maxRecDepth 100000 in
theorem c_T_isNight (l : Launch) (x0 : Int32) (x1 : Int32) (x2 : Int32) (r : Int32) (hF : F_T_isNight x0 x1 x2 = some r) : SetI l y_T_isNight b_T_isNight 3 (some .boolean) { frames := 2, cells := 0, slots := 0, locals := 42 } [.int x0, .int x1, .int x2] r := by
  refine met_ofS rfl (by decide +kernel) (Nat.le_of_ble_eq_true rfl) (fun p e s m below meth c C hr hlk => ?_)
  unfold F_T_isNight at hF
  show G p l e { frames := 2, cells := 0, slots := 0, locals := 42 } s m _ below meth c _ (fun _ => 0, fun _ _ => 0) (fun _ => False) 3 [] 0 [(0, .int x0), (1, .int x1), (2, .int x2)] []
  refine g_iload_n (pc1 := 1) C d_T_isNight_0 rfl rfl 0 rfl ?_
  refine g_iconst (pc1 := 2) (v := (0 : Int32)) C d_T_isNight_1 rfl ic_0 ?_
  refine g_bipush (pc1 := 4) (v := (60 : Int32)) C d_T_isNight_2 rfl bp_60 ?_
  obtain ⟨r1, hr1, hF⟩ := bnd_some hF
  refine g_callSI (pc1 := 7) (As := [.int x0, .int (0 : Int32), .int (60 : Int32)]) (rest := []) C 3 (c_T_within l x0 (0 : Int32) (60 : Int32) r1 hr1) s_T_within kw_22 rfl ⟨Nat.le_of_ble_eq_true rfl, Nat.le_of_ble_eq_true rfl⟩ ⟨rfl, rfl⟩ d_T_isNight_4 rfl rfl (Nat.le_of_ble_eq_true rfl) ?_
  refine g_if_eq (pc1 := 10) C 32 d_T_isNight_7 rfl (by decide) (fun c1 => ?_) (fun c1 => ?_)
  · replace hF := ite_t hF c1
    refine g_iconst (pc1 := 33) (v := (0 : Int32)) C d_T_isNight_32 rfl ic_0 ?_
    exact g_zret C hr hlk rfl d_T_isNight_33 (Option.some.inj hF) rfl
  · replace hF := ite_f hF c1
    refine g_iload_n (pc1 := 11) C d_T_isNight_10 rfl rfl 1 rfl ?_
    obtain ⟨r2, hr2, hF⟩ := bnd_some hF
    refine g_callSI (pc1 := 14) (As := [.int x1]) (rest := []) C 1 (c_T_isStrength l x1 r2 hr2) s_T_isStrength kw_34 rfl ⟨Nat.le_of_ble_eq_true rfl, Nat.le_of_ble_eq_true rfl⟩ ⟨rfl, rfl⟩ d_T_isNight_11 rfl rfl (Nat.le_of_ble_eq_true rfl) ?_
    refine g_if_eq (pc1 := 17) C 32 d_T_isNight_14 rfl (by decide) (fun c1 => ?_) (fun c1 => ?_)
    · replace hF := ite_t hF c1
      refine g_iconst (pc1 := 33) (v := (0 : Int32)) C d_T_isNight_32 rfl ic_0 ?_
      exact g_zret C hr hlk rfl d_T_isNight_33 (Option.some.inj hF) rfl
    · replace hF := ite_f hF c1
      refine g_iload_n (pc1 := 18) C d_T_isNight_17 rfl rfl 2 rfl ?_
      refine g_iconst (pc1 := 19) (v := (0 : Int32)) C d_T_isNight_18 rfl ic_0 ?_
      refine g_ldcw (pc1 := 22) (v := (999999 : Int32)) C d_T_isNight_19 rfl kw_152 ?_
      obtain ⟨r3, hr3, hF⟩ := bnd_some hF
      refine g_callSI (pc1 := 25) (As := [.int x2, .int (0 : Int32), .int (999999 : Int32)]) (rest := []) C 3 (c_T_within l x2 (0 : Int32) (999999 : Int32) r3 hr3) s_T_within kw_22 rfl ⟨Nat.le_of_ble_eq_true rfl, Nat.le_of_ble_eq_true rfl⟩ ⟨rfl, rfl⟩ d_T_isNight_22 rfl rfl (Nat.le_of_ble_eq_true rfl) ?_
      refine g_if_eq (pc1 := 28) C 32 d_T_isNight_25 rfl (by decide) (fun c1 => ?_) (fun c1 => ?_)
      · replace hF := ite_t hF c1
        refine g_iconst (pc1 := 33) (v := (0 : Int32)) C d_T_isNight_32 rfl ic_0 ?_
        exact g_zret C hr hlk rfl d_T_isNight_33 (Option.some.inj hF) rfl
      · replace hF := ite_f hF c1
        refine g_iconst (pc1 := 29) (v := (1 : Int32)) C d_T_isNight_28 rfl ic_1 ?_
        refine g_goto C 33 d_T_isNight_29 (by decide) ?_
        exact g_zret C hr hlk rfl d_T_isNight_33 (Option.some.inj hF) rfl
-- TentPegs$Plans.nextOf(J)J
set_option maxHeartbeats 4000000 in
set_option maxRecDepth 100000 in
theorem c_P_nextOf (l : Launch) (x0 : Int64) (r : Int64) (hF : F_P_nextOf x0 = some r) : SetL l y_P_nextOf b_P_nextOf 2 (some .long) { frames := 0, cells := 0, slots := 0, locals := 0 } [.long x0] r := by
  refine met_ofS rfl (by decide +kernel) (Nat.le_of_ble_eq_true rfl) (fun p e s m below meth c C hr hlk => ?_)
  unfold F_P_nextOf at hF
  show G p l e { frames := 0, cells := 0, slots := 0, locals := 0 } s m _ below meth c _ (fun _ => 0, fun _ _ => 0) (fun _ => False) 2 [] 0 [(0, .long x0)] []
  refine g_lload_n (pc1 := 1) C d_P_nextOf_0 rfl rfl 0 rfl ?_
  refine g_ldc2 (pc1 := 4) (v := (1103515245 : Int64)) C d_P_nextOf_1 rfl kw_153 ?_
  refine g_lmul (pc1 := 5) C d_P_nextOf_4 rfl ?_
  refine g_ldc2 (pc1 := 8) (v := (12345 : Int64)) C d_P_nextOf_5 rfl kw_154 ?_
  refine g_ladd (pc1 := 9) C d_P_nextOf_8 rfl ?_
  refine g_ldc2 (pc1 := 12) (v := (2147483648 : Int64)) C d_P_nextOf_9 rfl kw_155 ?_
  refine g_lrem (pc1 := 13) C d_P_nextOf_12 rfl nzl_2147483648 ?_
  exact g_lret C hr hlk d_P_nextOf_13 (Option.some.inj hF) rfl
-- TentPegs$Plans.passNight(III)I
set_option maxHeartbeats 4000000 in
set_option maxRecDepth 100000 in
theorem p_P_passNight_27 {p : Program} {l : Launch} {e : Env} {s : State} {m : MethodId} {args : Array Value} {below : List Frame} {meth : Method} {c : Code} {D : va_G} {cs : Nat → ClassId} {a : Nat → Nat} {r : Int32} {μ1 : Mem} (C : Cx p s m args c b_P_passNight 9 "TentPegs$Plans") (hK : va_K D classes (tys cs) s) (hr : meth.sig.returnType = (some .int)) (hlk : meth.locks = false)  : ∀ (μ : Mem) (x1 : Int32) (x2 : Int32) (x4 : Int32) (x5 : Int64) (x7 : Int32), F_P_passNight_27  μ x1 x2 x4 x5 x7 = some (r, μ1) → G p l e { frames := 6, cells := 0, slots := 0, locals := 135 } s m args below meth c (MQ below (Qi (AC a) D (WC a cs μ1) r) args s 0 0 (AC a)) D (AC a) 9 (WC a cs μ) 27 [(0, .ref (a 10)), (1, .int x1), (2, .int x2), (4, .int x4), (5, .long x5), (7, .int x7)] [] := by
  refine iter_ind (fun (K27 : Mem → Int32 → Int32 → Int32 → Int64 → Int32 → Option (Int32 × Mem)) => ∀ (μ : Mem) (x1 : Int32) (x2 : Int32) (x4 : Int32) (x5 : Int64) (x7 : Int32), K27 μ x1 x2 x4 x5 x7 = some (r, μ1) → G p l e { frames := 6, cells := 0, slots := 0, locals := 135 } s m args below meth c (MQ below (Qi (AC a) D (WC a cs μ1) r) args s 0 0 (AC a)) D (AC a) 9 (WC a cs μ) 27 [(0, .ref (a 10)), (1, .int x1), (2, .int x2), (4, .int x4), (5, .long x5), (7, .int x7)] []) ?_ ?_ NF
  · intro μ x1 x2 x4 x5 x7 hF
    exact none_no hF
  · intro K27 hK27 μ x1 x2 x4 x5 x7 hF
    unfold S_P_passNight_27 at hF
    refine g_iload (pc1 := 29) C d_P_passNight_27 rfl 5 rfl ?_
    refine g_iload_n (pc1 := 30) C d_P_passNight_29 rfl rfl 1 rfl ?_
    refine g_icmp_gt (pc1 := 33) C 110 d_P_passNight_30 rfl (by decide) (fun c1 => ?_) (fun c1 => ?_)
    · replace hF := ite_t hF c1
      refine g_iload (pc1 := 112) C d_P_passNight_110 rfl 3 rfl ?_
      exact g_iret C hr hlk d_P_passNight_112 (fst_of hF) (congrArg (WC a cs) (snd_of hF))
    · replace hF := ite_f hF c1
      refine g_lload (pc1 := 35) C d_P_passNight_33 rfl 4 rfl ?_
      obtain ⟨r1, hr1, hF⟩ := bnd_some hF
      refine g_callSL (pc1 := 38) (As := [.long x5]) (rest := []) C 1 (c_P_nextOf l x5 r1 hr1) s_P_nextOf kw_156 rfl ⟨Nat.le_of_ble_eq_true rfl, Nat.le_of_ble_eq_true rfl⟩ ⟨rfl, rfl⟩ d_P_passNight_35 rfl rfl (Nat.le_of_ble_eq_true rfl) ?_
      refine g_lstore (pc1 := 40) (L1 := [(5, .long r1), (0, .ref (a 10)), (1, .int x1), (2, .int x2), (4, .int x4), (7, .int x7)]) C d_P_passNight_38 rfl (by decide) rfl ?_
      refine g_lload (pc1 := 42) C d_P_passNight_40 rfl 0 rfl ?_
      refine g_ldc2 (pc1 := 45) (v := (65536 : Int64)) C d_P_passNight_42 rfl kw_157 ?_
      refine g_ldiv (pc1 := 46) C d_P_passNight_45 rfl nzl_65536 ?_
      refine g_ldc2 (pc1 := 49) (v := (8 : Int64)) C d_P_passNight_46 rfl kw_158 ?_
      refine g_lrem (pc1 := 50) C d_P_passNight_49 rfl nzl_8 ?_
      refine g_l2i (pc1 := 51) C d_P_passNight_50 rfl ?_
      refine g_istore (pc1 := 53) (L1 := [(8, .int (((r1 / (65536 : Int64)) - (r1 / (65536 : Int64)) / (8 : Int64) * (8 : Int64)).toInt32)), (5, .long r1), (0, .ref (a 10)), (1, .int x1), (2, .int x2), (4, .int x4), (7, .int x7)]) C d_P_passNight_51 rfl (by decide) rfl ?_
      refine g_lload (pc1 := 55) C d_P_passNight_53 rfl 1 rfl ?_
      obtain ⟨r2, hr2, hF⟩ := bnd_some hF
      refine g_callSL (pc1 := 58) (As := [.long r1]) (rest := []) C 1 (c_P_nextOf l r1 r2 hr2) s_P_nextOf kw_156 rfl ⟨Nat.le_of_ble_eq_true rfl, Nat.le_of_ble_eq_true rfl⟩ ⟨rfl, rfl⟩ d_P_passNight_55 rfl rfl (Nat.le_of_ble_eq_true rfl) ?_
      refine g_lstore (pc1 := 60) (L1 := [(5, .long r2), (8, .int (((r1 / (65536 : Int64)) - (r1 / (65536 : Int64)) / (8 : Int64) * (8 : Int64)).toInt32)), (0, .ref (a 10)), (1, .int x1), (2, .int x2), (4, .int x4), (7, .int x7)]) C d_P_passNight_58 rfl (by decide) rfl ?_
      refine g_aload_n (pc1 := 61) C d_P_passNight_60 rfl rfl 2 rfl ?_
      refine get_WC_10_gale (pc1 := 64) C hK kw_102 d_P_passNight_61 rfl ?_
      refine g_iload (pc1 := 66) C d_P_passNight_64 rfl 1 rfl ?_
      refine g_lload (pc1 := 68) C d_P_passNight_66 rfl 0 rfl ?_
      refine g_ldc2 (pc1 := 71) (v := (65536 : Int64)) C d_P_passNight_68 rfl kw_157 ?_
      refine g_ldiv (pc1 := 72) C d_P_passNight_71 rfl nzl_65536 ?_
      refine g_iload_n (pc1 := 73) C d_P_passNight_72 rfl rfl 4 rfl ?_
      refine g_iconst (pc1 := 74) (v := (1 : Int32)) C d_P_passNight_73 rfl ic_1 ?_
      refine g_iadd (pc1 := 75) C d_P_passNight_74 rfl ?_
      refine g_i2l (pc1 := 76) C d_P_passNight_75 rfl ?_
      by_cases h0 : ((x2 + (1 : Int32)).toInt64) = 0
      · exact none_no (ite_t hF h0)
      replace hF := ite_f hF h0
      refine g_lrem (pc1 := 77) C d_P_passNight_76 rfl h0 ?_
      refine g_l2i (pc1 := 78) C d_P_passNight_77 rfl ?_
      obtain ⟨m3, hm3, hF⟩ := bnd_some hF
      refine g_callVV (pc1 := 81) (ws1 := WC a cs m3) (As := [.int (((r1 / (65536 : Int64)) - (r1 / (65536 : Int64)) / (8 : Int64) * (8 : Int64)).toInt32), .int (((r2 / (65536 : Int64)) - (r2 / (65536 : Int64)) / ((x2 + (1 : Int32)).toInt64) * ((x2 + (1 : Int32)).toInt64)).toInt32)]) (rest := []) (b := a 7) C hK 2 (c_G_blow l D cs a μ (((r1 / (65536 : Int64)) - (r1 / (65536 : Int64)) / (8 : Int64) * (8 : Int64)).toInt32) (((r2 / (65536 : Int64)) - (r2 / (65536 : Int64)) / ((x2 + (1 : Int32)).toInt64) * ((x2 + (1 : Int32)).toInt64)).toInt32) m3 hm3) s_G_blow kw_140 7 rfl rfl rfl ⟨Nat.le_of_ble_eq_true rfl, Nat.le_of_ble_eq_true rfl⟩ ⟨rfl, rfl⟩ d_P_passNight_78 rfl rfl (Nat.le_of_ble_eq_true rfl) ?_
      refine g_iload (pc1 := 83) C d_P_passNight_81 rfl 5 rfl ?_
      refine g_iconst (pc1 := 84) (v := (-1 : Int32)) C d_P_passNight_83 rfl ic_m1 ?_
      refine g_icmp_ne (pc1 := 87) C 104 d_P_passNight_84 rfl (by decide) (fun c1 => ?_) (fun c1 => ?_)
      · replace hF := ite_f hF c1
        refine g_iinc (pc1 := 107) (v := (x7 + (1 : Int32))) (L1 := [(7, .int (x7 + (1 : Int32))), (5, .long r2), (8, .int (((r1 / (65536 : Int64)) - (r1 / (65536 : Int64)) / (8 : Int64) * (8 : Int64)).toInt32)), (0, .ref (a 10)), (1, .int x1), (2, .int x2), (4, .int x4)]) C d_P_passNight_104 rfl 6 rfl (by rw [ic_1]) (by decide) rfl ?_
        refine g_goto C 27 d_P_passNight_107 (by decide) ?_
        exact g_sub [3, 4, 5, 6, 1, 0] rfl (hK27 m3 x1 x2 x4 r2 (x7 + (1 : Int32)) hF)
      · replace hF := ite_t hF c1
        refine g_aload_n (pc1 := 88) C d_P_passNight_87 rfl rfl 2 rfl ?_
        refine get_WC_10_gale (pc1 := 91) C hK kw_102 d_P_passNight_88 rfl ?_
        refine get_WC_7_standing (pc1 := 94) C hK (v := (m3.1 7 4)) rfl kw_103 d_P_passNight_91 rfl ?_
        obtain ⟨r4, hr4, hF⟩ := bnd_some hF
        refine g_callNI (pc1 := 97) (As := [.int (m3.1 7 4)]) (rest := []) C 1 (c_T_isLost l (m3.1 7 4) r4 hr4) s_T_isLost 11 rfl rfl ⟨Nat.le_of_ble_eq_true rfl, Nat.le_of_ble_eq_true rfl⟩ ⟨rfl, rfl⟩ d_P_passNight_94 rfl rfl (Nat.le_of_ble_eq_true rfl) ?_
        refine g_if_eq (pc1 := 100) C 104 d_P_passNight_97 rfl (by decide) (fun c1 => ?_) (fun c1 => ?_)
        · replace hF := ite_t hF c1
          refine g_iinc (pc1 := 107) (v := (x7 + (1 : Int32))) (L1 := [(7, .int (x7 + (1 : Int32))), (5, .long r2), (8, .int (((r1 / (65536 : Int64)) - (r1 / (65536 : Int64)) / (8 : Int64) * (8 : Int64)).toInt32)), (0, .ref (a 10)), (1, .int x1), (2, .int x2), (4, .int x4)]) C d_P_passNight_104 rfl 6 rfl (by rw [ic_1]) (by decide) rfl ?_
          refine g_goto C 27 d_P_passNight_107 (by decide) ?_
          exact g_sub [3, 4, 5, 6, 1, 0] rfl (hK27 m3 x1 x2 x4 r2 (x7 + (1 : Int32)) hF)
        · replace hF := ite_f hF c1
          refine g_iload (pc1 := 102) C d_P_passNight_100 rfl 6 rfl ?_
          refine g_istore (pc1 := 104) (L1 := [(4, .int x7), (5, .long r2), (8, .int (((r1 / (65536 : Int64)) - (r1 / (65536 : Int64)) / (8 : Int64) * (8 : Int64)).toInt32)), (0, .ref (a 10)), (1, .int x1), (2, .int x2), (7, .int x7)]) C d_P_passNight_102 rfl (by decide) rfl ?_
          refine g_iinc (pc1 := 107) (v := (x7 + (1 : Int32))) (L1 := [(7, .int (x7 + (1 : Int32))), (4, .int x7), (5, .long r2), (8, .int (((r1 / (65536 : Int64)) - (r1 / (65536 : Int64)) / (8 : Int64) * (8 : Int64)).toInt32)), (0, .ref (a 10)), (1, .int x1), (2, .int x2)]) C d_P_passNight_104 rfl 6 rfl (by rw [ic_1]) (by decide) rfl ?_
          refine g_goto C 27 d_P_passNight_107 (by decide) ?_
          exact g_sub [4, 5, 6, 1, 2, 0] rfl (hK27 m3 x1 x2 x7 r2 (x7 + (1 : Int32)) hF)
set_option maxHeartbeats 4000000 in
set_option maxRecDepth 100000 in
theorem c_P_passNight (l : Launch) (D : va_G) (cs : Nat → ClassId) (a : Nat → Nat) (μ : Mem) (x1 : Int32) (x2 : Int32) (x3 : Int32) (r : Int32) (μ1 : Mem) (hF : F_P_passNight μ x1 x2 x3 = some (r, μ1)) : MetI l y_P_passNight b_P_passNight 9 (some .int) { frames := 6, cells := 0, slots := 0, locals := 135 } D cs (AC a) (WC a cs μ) [.ref (a 10), .int x1, .int x2, .int x3] r (WC a cs μ1) := by
  refine met_of rfl (by decide +kernel) (Nat.le_of_ble_eq_true rfl) (fun p e s m below meth c C hK hr hlk => ?_)
  unfold F_P_passNight at hF
  show G p l e { frames := 6, cells := 0, slots := 0, locals := 135 } s m _ below meth c _ D (AC a) 9 (WC a cs μ) 0 [(0, .ref (a 10)), (1, .int x1), (2, .int x2), (3, .int x3)] []
  refine g_aload_n (pc1 := 1) C d_P_passNight_0 rfl rfl 0 rfl ?_
  refine get_WC_10_gale (pc1 := 4) C hK kw_102 d_P_passNight_1 rfl ?_
  refine get_WC_7_standing (pc1 := 7) C hK (v := (μ.1 7 4)) rfl kw_103 d_P_passNight_4 rfl ?_
  obtain ⟨r1, hr1, hF⟩ := bnd_some hF
  refine g_callNI (pc1 := 10) (As := [.int (μ.1 7 4)]) (rest := []) C 1 (c_T_isLost l (μ.1 7 4) r1 hr1) s_T_isLost 11 rfl rfl ⟨Nat.le_of_ble_eq_true rfl, Nat.le_of_ble_eq_true rfl⟩ ⟨rfl, rfl⟩ d_P_passNight_7 rfl rfl (Nat.le_of_ble_eq_true rfl) ?_
  refine g_if_eq (pc1 := 13) C 17 d_P_passNight_10 rfl (by decide) (fun c1 => ?_) (fun c1 => ?_)
  · replace hF := ite_t hF c1
    refine g_iconst (pc1 := 18) (v := (-1 : Int32)) C d_P_passNight_17 rfl ic_m1 ?_
    refine g_istore (pc1 := 20) (L1 := [(4, .int (-1 : Int32)), (0, .ref (a 10)), (1, .int x1), (2, .int x2), (3, .int x3)]) C d_P_passNight_18 rfl (by decide) rfl ?_
    refine g_iload_n (pc1 := 21) C d_P_passNight_20 rfl rfl 4 rfl ?_
    refine g_i2l (pc1 := 22) C d_P_passNight_21 rfl ?_
    refine g_lstore (pc1 := 24) (L1 := [(5, .long (x3.toInt64)), (4, .int (-1 : Int32)), (0, .ref (a 10)), (1, .int x1), (2, .int x2), (3, .int x3)]) C d_P_passNight_22 rfl (by decide) rfl ?_
    refine g_iconst (pc1 := 25) (v := (1 : Int32)) C d_P_passNight_24 rfl ic_1 ?_
    refine g_istore (pc1 := 27) (L1 := [(7, .int (1 : Int32)), (5, .long (x3.toInt64)), (4, .int (-1 : Int32)), (0, .ref (a 10)), (1, .int x1), (2, .int x2), (3, .int x3)]) C d_P_passNight_25 rfl (by decide) rfl ?_
    exact g_sub [3, 4, 5, 2, 1, 0] rfl (p_P_passNight_27 C hK hr hlk  μ x1 x2 (-1 : Int32) (x3.toInt64) (1 : Int32) hF)
  · replace hF := ite_f hF c1
    refine g_iconst (pc1 := 14) (v := (0 : Int32)) C d_P_passNight_13 rfl ic_0 ?_
    refine g_goto C 18 d_P_passNight_14 (by decide) ?_
    refine g_istore (pc1 := 20) (L1 := [(4, .int (0 : Int32)), (0, .ref (a 10)), (1, .int x1), (2, .int x2), (3, .int x3)]) C d_P_passNight_18 rfl (by decide) rfl ?_
    refine g_iload_n (pc1 := 21) C d_P_passNight_20 rfl rfl 4 rfl ?_
    refine g_i2l (pc1 := 22) C d_P_passNight_21 rfl ?_
    refine g_lstore (pc1 := 24) (L1 := [(5, .long (x3.toInt64)), (4, .int (0 : Int32)), (0, .ref (a 10)), (1, .int x1), (2, .int x2), (3, .int x3)]) C d_P_passNight_22 rfl (by decide) rfl ?_
    refine g_iconst (pc1 := 25) (v := (1 : Int32)) C d_P_passNight_24 rfl ic_1 ?_
    refine g_istore (pc1 := 27) (L1 := [(7, .int (1 : Int32)), (5, .long (x3.toInt64)), (4, .int (0 : Int32)), (0, .ref (a 10)), (1, .int x1), (2, .int x2), (3, .int x3)]) C d_P_passNight_25 rfl (by decide) rfl ?_
    exact g_sub [3, 4, 5, 2, 1, 0] rfl (p_P_passNight_27 C hK hr hlk  μ x1 x2 (0 : Int32) (x3.toInt64) (1 : Int32) hF)
-- TentPegs.night(IIII)I
set_option maxHeartbeats 4000000 in
set_option maxRecDepth 100000 in
theorem p_T_night_19 {p : Program} {l : Launch} {e : Env} {s : State} {m : MethodId} {args : Array Value} {below : List Frame} {meth : Method} {c : Code} {D : va_G} {cs : Nat → ClassId} {a : Nat → Nat} {r : Int32} {μ1 : Mem} (C : Cx p s m args c b_T_night 6 "TentPegs") (hK : va_K D classes (tys cs) s) (hr : meth.sig.returnType = (some .int)) (hlk : meth.locks = false)  (μ : Mem)  (hF : F_T_night_19  μ = some (r, μ1)) : G p l e { frames := 7, cells := 0, slots := 0, locals := 163 } s m args below meth c (MQ below (Qi (AC a) D (WC a cs μ1) r) args s 0 0 (AC a)) D (AC a) 6 (WC a cs μ) 19 [(0, .ref (a 0))] [] := by
  unfold F_T_night_19 at hF
  refine g_aload_n (pc1 := 20) C d_T_night_19 rfl rfl 0 rfl ?_
  refine g_bipush (pc1 := 22) (v := (-10 : Int32)) C d_T_night_20 rfl bp_m10 ?_
  obtain ⟨⟨r1, m1⟩, hm1, hF⟩ := bnd_some hF
  refine g_callVI (pc1 := 25) (ws1 := WC a cs m1) (As := [.int (-10 : Int32)]) (rest := []) (b := a 0) C hK 1 (c_T_bad l D cs a μ (-10 : Int32) r1 m1 hm1) s_T_bad kw_15 0 rfl rfl rfl ⟨Nat.le_of_ble_eq_true rfl, Nat.le_of_ble_eq_true rfl⟩ ⟨rfl, rfl⟩ d_T_night_22 rfl rfl (Nat.le_of_ble_eq_true rfl) ?_
  exact g_iret C hr hlk d_T_night_25 (fst_of hF) (congrArg (WC a cs) (snd_of hF))
set_option maxHeartbeats 4000000 in
set_option maxRecDepth 100000 in
theorem c_T_night (l : Launch) (D : va_G) (cs : Nat → ClassId) (a : Nat → Nat) (μ : Mem) (x1 : Int32) (x2 : Int32) (x3 : Int32) (x4 : Int32) (r : Int32) (μ1 : Mem) (hF : F_T_night μ x1 x2 x3 x4 = some (r, μ1)) : MetI l y_T_night b_T_night 6 (some .int) { frames := 7, cells := 0, slots := 0, locals := 163 } D cs (AC a) (WC a cs μ) [.ref (a 0), .int x1, .int x2, .int x3, .int x4] r (WC a cs μ1) := by
  refine met_of rfl (by decide +kernel) (Nat.le_of_ble_eq_true rfl) (fun p e s m below meth c C hK hr hlk => ?_)
  unfold F_T_night at hF
  show G p l e { frames := 7, cells := 0, slots := 0, locals := 163 } s m _ below meth c _ D (AC a) 6 (WC a cs μ) 0 [(0, .ref (a 0)), (1, .int x1), (2, .int x2), (3, .int x3), (4, .int x4)] []
  refine g_iload_n (pc1 := 1) C d_T_night_0 rfl rfl 1 rfl ?_
  refine g_iload_n (pc1 := 2) C d_T_night_1 rfl rfl 2 rfl ?_
  refine g_iload_n (pc1 := 3) C d_T_night_2 rfl rfl 3 rfl ?_
  obtain ⟨r1, hr1, hF⟩ := bnd_some hF
  refine g_callSI (pc1 := 6) (As := [.int x1, .int x2, .int x3]) (rest := []) C 3 (c_T_isNight l x1 x2 x3 r1 hr1) s_T_isNight kw_159 rfl ⟨Nat.le_of_ble_eq_true rfl, Nat.le_of_ble_eq_true rfl⟩ ⟨rfl, rfl⟩ d_T_night_3 rfl rfl (Nat.le_of_ble_eq_true rfl) ?_
  refine g_if_eq (pc1 := 9) C 19 d_T_night_6 rfl (by decide) (fun c1 => ?_) (fun c1 => ?_)
  · replace hF := ite_t hF c1
    exact g_sub [0] rfl (p_T_night_19 C hK hr hlk  μ hF)
  · replace hF := ite_f hF c1
    refine g_iload (pc1 := 11) C d_T_night_9 rfl 4 rfl ?_
    refine g_iconst (pc1 := 12) (v := (0 : Int32)) C d_T_night_11 rfl ic_0 ?_
    refine g_iconst (pc1 := 13) (v := (1 : Int32)) C d_T_night_12 rfl ic_1 ?_
    obtain ⟨r2, hr2, hF⟩ := bnd_some hF
    refine g_callSI (pc1 := 16) (As := [.int x4, .int (0 : Int32), .int (1 : Int32)]) (rest := []) C 3 (c_T_within l x4 (0 : Int32) (1 : Int32) r2 hr2) s_T_within kw_22 rfl ⟨Nat.le_of_ble_eq_true rfl, Nat.le_of_ble_eq_true rfl⟩ ⟨rfl, rfl⟩ d_T_night_13 rfl rfl (Nat.le_of_ble_eq_true rfl) ?_
    refine g_if_ne (pc1 := 19) C 26 d_T_night_16 rfl (by decide) (fun c1 => ?_) (fun c1 => ?_)
    · replace hF := ite_f hF c1
      refine g_aload_n (pc1 := 27) C d_T_night_26 rfl rfl 0 rfl ?_
      obtain ⟨m3, hm3, hF⟩ := bnd_some hF
      refine g_callVR (pc1 := 30) (ws1 := WC a cs m3) (As := []) (rest := []) (b := a 0) C hK 0 (c_T_asItIs l D cs a μ  m3 hm3) s_T_asItIs kw_81 0 rfl rfl rfl ⟨Nat.le_of_ble_eq_true rfl, Nat.le_of_ble_eq_true rfl⟩ ⟨rfl, rfl⟩ d_T_night_27 rfl rfl (Nat.le_of_ble_eq_true rfl) ?_
      refine g_pop (pc1 := 31) C d_T_night_30 rfl rfl ?_
      refine g_aload_n (pc1 := 32) C d_T_night_31 rfl rfl 0 rfl ?_
      refine get_WC_0_plans (pc1 := 35) C hK kw_107 d_T_night_32 rfl ?_
      refine g_iload_n (pc1 := 36) C d_T_night_35 rfl rfl 1 rfl ?_
      refine g_iload_n (pc1 := 37) C d_T_night_36 rfl rfl 2 rfl ?_
      refine g_iload_n (pc1 := 38) C d_T_night_37 rfl rfl 3 rfl ?_
      obtain ⟨⟨r4, m4⟩, hm4, hF⟩ := bnd_some hF
      refine g_callVI (pc1 := 41) (ws1 := WC a cs m4) (As := [.int x1, .int x2, .int x3]) (rest := []) (b := a 10) C hK 3 (c_P_passNight l D cs a m3 x1 x2 x3 r4 m4 hm4) s_P_passNight kw_160 10 rfl rfl rfl ⟨Nat.le_of_ble_eq_true rfl, Nat.le_of_ble_eq_true rfl⟩ ⟨rfl, rfl⟩ d_T_night_38 rfl rfl (Nat.le_of_ble_eq_true rfl) ?_
      refine g_istore (pc1 := 43) (L1 := [(5, .int r4), (0, .ref (a 0)), (1, .int x1), (2, .int x2), (3, .int x3), (4, .int x4)]) C d_T_night_41 rfl (by decide) rfl ?_
      refine g_iload (pc1 := 45) C d_T_night_43 rfl 5 rfl ?_
      refine g_if_ne (pc1 := 48) C 53 d_T_night_45 rfl (by decide) (fun c1 => ?_) (fun c1 => ?_)
      · replace hF := ite_f hF c1
        refine g_aload_n (pc1 := 54) C d_T_night_53 rfl rfl 1 rfl ?_
        refine get_WC_0_gale (pc1 := 57) C hK kw_51 d_T_night_54 rfl ?_
        refine get_WC_7_standing (pc1 := 60) C hK (v := (m4.1 7 4)) rfl kw_83 d_T_night_57 rfl ?_
        obtain ⟨r5, hr5, hF⟩ := bnd_some hF
        refine g_callSI (pc1 := 63) (As := [.int (m4.1 7 4)]) (rest := []) C 1 (c_JI_bitCount l (m4.1 7 4) r5 hr5) s_JI_bitCount kw_38 rfl ⟨Nat.le_of_ble_eq_true rfl, Nat.le_of_ble_eq_true rfl⟩ ⟨rfl, rfl⟩ d_T_night_60 rfl rfl (Nat.le_of_ble_eq_true rfl) ?_
        exact g_iret C hr hlk d_T_night_63 (fst_of hF) (congrArg (WC a cs) (snd_of hF))
      · replace hF := ite_t hF c1
        refine g_iload (pc1 := 50) C d_T_night_48 rfl 0 rfl ?_
        refine g_goto C 63 d_T_night_50 (by decide) ?_
        exact g_iret C hr hlk d_T_night_63 (fst_of hF) (congrArg (WC a cs) (snd_of hF))
    · replace hF := ite_t hF c1
      exact g_sub [0] rfl (p_T_night_19 C hK hr hlk  μ hF)
-- TentPegs.wake(III)I
set_option maxHeartbeats 4000000 in
set_option maxRecDepth 100000 in
theorem c_T_wake (l : Launch) (D : va_G) (cs : Nat → ClassId) (a : Nat → Nat) (μ : Mem) (x1 : Int32) (x2 : Int32) (x3 : Int32) (r : Int32) (μ1 : Mem) (hF : F_T_wake μ x1 x2 x3 = some (r, μ1)) : MetI l y_T_wake b_T_wake 4 (some .int) { frames := 7, cells := 0, slots := 0, locals := 163 } D cs (AC a) (WC a cs μ) [.ref (a 0), .int x1, .int x2, .int x3] r (WC a cs μ1) := by
  refine met_of rfl (by decide +kernel) (Nat.le_of_ble_eq_true rfl) (fun p e s m below meth c C hK hr hlk => ?_)
  unfold F_T_wake at hF
  show G p l e { frames := 7, cells := 0, slots := 0, locals := 163 } s m _ below meth c _ D (AC a) 4 (WC a cs μ) 0 [(0, .ref (a 0)), (1, .int x1), (2, .int x2), (3, .int x3)] []
  refine g_iload_n (pc1 := 1) C d_T_wake_0 rfl rfl 1 rfl ?_
  refine g_iload_n (pc1 := 2) C d_T_wake_1 rfl rfl 2 rfl ?_
  refine g_iload_n (pc1 := 3) C d_T_wake_2 rfl rfl 3 rfl ?_
  obtain ⟨r1, hr1, hF⟩ := bnd_some hF
  refine g_callSI (pc1 := 6) (As := [.int x1, .int x2, .int x3]) (rest := []) C 3 (c_T_isNight l x1 x2 x3 r1 hr1) s_T_isNight kw_159 rfl ⟨Nat.le_of_ble_eq_true rfl, Nat.le_of_ble_eq_true rfl⟩ ⟨rfl, rfl⟩ d_T_wake_3 rfl rfl (Nat.le_of_ble_eq_true rfl) ?_
  refine g_if_ne (pc1 := 9) C 16 d_T_wake_6 rfl (by decide) (fun c1 => ?_) (fun c1 => ?_)
  · replace hF := ite_f hF c1
    refine g_aload_n (pc1 := 17) C d_T_wake_16 rfl rfl 0 rfl ?_
    obtain ⟨m2, hm2, hF⟩ := bnd_some hF
    refine g_callVR (pc1 := 20) (ws1 := WC a cs m2) (As := []) (rest := []) (b := a 0) C hK 0 (c_T_asItIs l D cs a μ  m2 hm2) s_T_asItIs kw_81 0 rfl rfl rfl ⟨Nat.le_of_ble_eq_true rfl, Nat.le_of_ble_eq_true rfl⟩ ⟨rfl, rfl⟩ d_T_wake_17 rfl rfl (Nat.le_of_ble_eq_true rfl) ?_
    refine g_pop (pc1 := 21) C d_T_wake_20 rfl rfl ?_
    refine g_aload_n (pc1 := 22) C d_T_wake_21 rfl rfl 0 rfl ?_
    refine get_WC_0_plans (pc1 := 25) C hK kw_107 d_T_wake_22 rfl ?_
    refine g_iload_n (pc1 := 26) C d_T_wake_25 rfl rfl 1 rfl ?_
    refine g_iload_n (pc1 := 27) C d_T_wake_26 rfl rfl 2 rfl ?_
    refine g_iload_n (pc1 := 28) C d_T_wake_27 rfl rfl 3 rfl ?_
    obtain ⟨⟨r3, m3⟩, hm3, hF⟩ := bnd_some hF
    refine g_callVI (pc1 := 31) (ws1 := WC a cs m3) (As := [.int x1, .int x2, .int x3]) (rest := []) (b := a 10) C hK 3 (c_P_passNight l D cs a m2 x1 x2 x3 r3 m3 hm3) s_P_passNight kw_160 10 rfl rfl rfl ⟨Nat.le_of_ble_eq_true rfl, Nat.le_of_ble_eq_true rfl⟩ ⟨rfl, rfl⟩ d_T_wake_28 rfl rfl (Nat.le_of_ble_eq_true rfl) ?_
    refine g_pop (pc1 := 32) C d_T_wake_31 rfl rfl ?_
    refine g_aload_n (pc1 := 33) C d_T_wake_32 rfl rfl 0 rfl ?_
    refine get_WC_0_gale (pc1 := 36) C hK kw_51 d_T_wake_33 rfl ?_
    refine get_WC_7_standing (pc1 := 39) C hK (v := (m3.1 7 4)) rfl kw_83 d_T_wake_36 rfl ?_
    obtain ⟨r4, hr4, hF⟩ := bnd_some hF
    refine g_callSI (pc1 := 42) (As := [.int (m3.1 7 4)]) (rest := []) C 1 (c_JI_bitCount l (m3.1 7 4) r4 hr4) s_JI_bitCount kw_38 rfl ⟨Nat.le_of_ble_eq_true rfl, Nat.le_of_ble_eq_true rfl⟩ ⟨rfl, rfl⟩ d_T_wake_39 rfl rfl (Nat.le_of_ble_eq_true rfl) ?_
    refine g_aload_n (pc1 := 43) C d_T_wake_42 rfl rfl 0 rfl ?_
    refine get_WC_0_field (pc1 := 46) C hK kw_12 d_T_wake_43 rfl ?_
    refine get_WC_1_pegs (pc1 := 49) C hK (v := (m3.1 1 0)) rfl kw_13 d_T_wake_46 rfl ?_
    refine g_icmp_ge (pc1 := 52) C 56 d_T_wake_49 rfl (by decide) (fun c1 => ?_) (fun c1 => ?_)
    · replace hF := ite_t hF c1
      refine g_iconst (pc1 := 57) (v := (-1 : Int32)) C d_T_wake_56 rfl ic_m1 ?_
      exact g_iret C hr hlk d_T_wake_57 (fst_of hF) (congrArg (WC a cs) (snd_of hF))
    · replace hF := ite_f hF c1
      refine g_iload_n (pc1 := 53) C d_T_wake_52 rfl rfl 1 rfl ?_
      refine g_goto C 57 d_T_wake_53 (by decide) ?_
      exact g_iret C hr hlk d_T_wake_57 (fst_of hF) (congrArg (WC a cs) (snd_of hF))
  · replace hF := ite_t hF c1
    refine g_aload_n (pc1 := 10) C d_T_wake_9 rfl rfl 0 rfl ?_
    refine g_bipush (pc1 := 12) (v := (-10 : Int32)) C d_T_wake_10 rfl bp_m10 ?_
    obtain ⟨⟨r5, m5⟩, hm5, hF⟩ := bnd_some hF
    refine g_callVI (pc1 := 15) (ws1 := WC a cs m5) (As := [.int (-10 : Int32)]) (rest := []) (b := a 0) C hK 1 (c_T_bad l D cs a μ (-10 : Int32) r5 m5 hm5) s_T_bad kw_15 0 rfl rfl rfl ⟨Nat.le_of_ble_eq_true rfl, Nat.le_of_ble_eq_true rfl⟩ ⟨rfl, rfl⟩ d_T_wake_12 rfl rfl (Nat.le_of_ble_eq_true rfl) ?_
    exact g_iret C hr hlk d_T_wake_15 (fst_of hF) (congrArg (WC a cs) (snd_of hF))
-- TentPegs.part(I)J
set_option maxHeartbeats 4000000 in
set_option maxRecDepth 100000 in
theorem c_T_part (l : Launch) (D : va_G) (cs : Nat → ClassId) (a : Nat → Nat) (μ : Mem) (x1 : Int32) (r : Int64) (μ1 : Mem) (hF : F_T_part μ x1 = some (r, μ1)) : MetL l y_T_part b_T_part 2 (some .long) { frames := 1, cells := 0, slots := 0, locals := 21 } D cs (AC a) (WC a cs μ) [.ref (a 0), .int x1] r (WC a cs μ1) := by
  refine met_of rfl (by decide +kernel) (Nat.le_of_ble_eq_true rfl) (fun p e s m below meth c C hK hr hlk => ?_)
  unfold F_T_part at hF
  show G p l e { frames := 1, cells := 0, slots := 0, locals := 21 } s m _ below meth c _ D (AC a) 2 (WC a cs μ) 0 [(0, .ref (a 0)), (1, .int x1)] []
  refine g_iload_n (pc1 := 1) C d_T_part_0 rfl rfl 1 rfl ?_
  by_cases h0 : x1 = (0 : Int32)
  · replace hF := ite_t hF h0
    refine g_look C 28 d_T_part_1 rfl (by rw [h0, ti_0] <;> rfl) (by decide) ?_
    refine g_aload_n (pc1 := 29) C d_T_part_28 rfl rfl 0 rfl ?_
    refine get_WC_0_above (pc1 := 32) C hK (v := (μ.1 0 8)) rfl kw_120 d_T_part_29 rfl ?_
    refine g_i2l (pc1 := 33) C d_T_part_32 rfl ?_
    exact g_lret C hr hlk d_T_part_33 (fst_of hF) (congrArg (WC a cs) (snd_of hF))
  replace hF := ite_f hF h0
  by_cases h1 : x1 = (1 : Int32)
  · replace hF := ite_t hF h1
    refine g_look C 34 d_T_part_1 rfl (by rw [h1, ti_1] <;> rfl) (by decide) ?_
    refine g_aload_n (pc1 := 35) C d_T_part_34 rfl rfl 0 rfl ?_
    refine get_WC_0_below (pc1 := 38) C hK (v := (μ.1 0 9)) rfl kw_121 d_T_part_35 rfl ?_
    refine g_i2l (pc1 := 39) C d_T_part_38 rfl ?_
    exact g_lret C hr hlk d_T_part_39 (fst_of hF) (congrArg (WC a cs) (snd_of hF))
  replace hF := ite_f hF h1
  refine g_look (off := 39) C 40 d_T_part_1 rfl ((lv_osw h0 ti_0).trans ((lv_osw h1 ti_1).trans (rfl))) (by decide) ?_
  refine g_aload_n (pc1 := 41) C d_T_part_40 rfl rfl 0 rfl ?_
  refine g_ldcw (pc1 := 44) (v := (-100000 : Int32)) C d_T_part_41 rfl kw_161 ?_
  obtain ⟨⟨r1, m1⟩, hm1, hF⟩ := bnd_some hF
  refine g_callVI (pc1 := 47) (ws1 := WC a cs m1) (As := [.int (-100000 : Int32)]) (rest := []) (b := a 0) C hK 1 (c_T_bad l D cs a μ (-100000 : Int32) r1 m1 hm1) s_T_bad kw_15 0 rfl rfl rfl ⟨Nat.le_of_ble_eq_true rfl, Nat.le_of_ble_eq_true rfl⟩ ⟨rfl, rfl⟩ d_T_part_44 rfl rfl (Nat.le_of_ble_eq_true rfl) ?_
  refine g_i2l (pc1 := 48) C d_T_part_47 rfl ?_
  exact g_lret C hr hlk d_T_part_48 (fst_of hF) (congrArg (WC a cs) (snd_of hF))
