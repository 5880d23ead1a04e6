-- TentPegsModel.wake(III)I
set_option maxHeartbeats 4000000 in
set_option maxRecDepth 100000 in
theorem p_M_wake_97 {p : Program} {l : Launch} {e : Env} {s : State} {m : MethodId} {args : Array Value} {below : List Frame} {meth : Method} {c : Code} {D : va_G} {cs : Nat → ClassId} {a : Nat → Nat} {r : Int32} {μ1 : Mem} (C : Cx p s m args c b_M_wake 9 "TentPegsModel") (hK : va_K D classes (tys cs) s) (hr : meth.sig.returnType = (some .int)) (hlk : meth.locks = false) (K38 : Mem → Int32 → Int32 → Int32 → Int32 → Int32 → Int32 → Option (Int32 × Mem)) (hK38 : ∀ (μ : Mem) (x1 : Int32) (x2 : Int32) (x3 : Int32) (x4 : Int32) (x5 : Int32) (x6 : Int32), K38 μ x1 x2 x3 x4 x5 x6 = some (r, μ1) → G p l e { frames := 6, cells := 0, slots := 0, locals := 144 } s m args below meth c (MQ below (Qi (AM a) D (WM a cs μ1) r) args s 0 0 (AM a)) D (AM a) 9 (WM a cs μ) 38 [(0, .ref (a 0)), (1, .int x1), (2, .int x2), (3, .int x3), (4, .int x4), (5, .int x5), (6, .int x6)] []) (μ : Mem) (x1 : Int32) (x2 : Int32) (x3 : Int32) (x4 : Int32) (x6 : Int32) (x7 : Int32) (x8 : Int32) (s0 : Int32) (hF : F_M_wake_97 K38 μ x1 x2 x3 x4 x6 x7 x8 s0 = some (r, μ1)) : G p l e { frames := 6, cells := 0, slots := 0, locals := 144 } s m args below meth c (MQ below (Qi (AM a) D (WM a cs μ1) r) args s 0 0 (AM a)) D (AM a) 9 (WM a cs μ) 97 [(0, .ref (a 0)), (1, .int x1), (2, .int x2), (3, .int x3), (4, .int x4), (6, .int x6), (7, .int x7), (8, .int x8)] [.int s0] := by
  unfold F_M_wake_97 at hF
  refine g_istore (pc1 := 99) (L1 := [(5, .int s0), (0, .ref (a 0)), (1, .int x1), (2, .int x2), (3, .int x3), (4, .int x4), (6, .int x6), (7, .int x7), (8, .int x8)]) C d_M_wake_97 rfl (by decide) rfl ?_
  refine g_iload (pc1 := 101) C d_M_wake_99 rfl 8 rfl ?_
  refine g_if_eq (pc1 := 104) C 109 d_M_wake_101 rfl (by decide) (fun c1 => ?_) (fun c1 => ?_)
  · replace hF := ite_t hF c1
    refine g_iload (pc1 := 111) C d_M_wake_109 rfl 5 rfl ?_
    refine g_istore (pc1 := 113) (L1 := [(4, .int x4), (5, .int s0), (0, .ref (a 0)), (1, .int x1), (2, .int x2), (3, .int x3), (6, .int x6), (7, .int x7), (8, .int x8)]) C d_M_wake_111 rfl (by decide) rfl ?_
    refine g_iinc (pc1 := 116) (v := (x6 + (1 : Int32))) (L1 := [(6, .int (x6 + (1 : Int32))), (4, .int x4), (5, .int s0), (0, .ref (a 0)), (1, .int x1), (2, .int x2), (3, .int x3), (7, .int x7), (8, .int x8)]) C d_M_wake_113 rfl 6 rfl (by rw [ic_1]) (by decide) rfl ?_
    refine g_goto C 38 d_M_wake_116 (by decide) ?_
    exact g_sub [3, 4, 5, 6, 1, 2, 0] rfl (hK38 μ x1 x2 x3 x4 s0 (x6 + (1 : Int32)) hF)
  · replace hF := ite_f hF c1
    refine g_iload (pc1 := 106) C d_M_wake_104 rfl 7 rfl ?_
    refine g_goto C 111 d_M_wake_106 (by decide) ?_
    refine g_istore (pc1 := 113) (L1 := [(4, .int x7), (5, .int s0), (0, .ref (a 0)), (1, .int x1), (2, .int x2), (3, .int x3), (6, .int x6), (7, .int x7), (8, .int x8)]) C d_M_wake_111 rfl (by decide) rfl ?_
    refine g_iinc (pc1 := 116) (v := (x6 + (1 : Int32))) (L1 := [(6, .int (x6 + (1 : Int32))), (4, .int x7), (5, .int s0), (0, .ref (a 0)), (1, .int x1), (2, .int x2), (3, .int x3), (7, .int x7), (8, .int x8)]) C d_M_wake_113 rfl 6 rfl (by rw [ic_1]) (by decide) rfl ?_
    refine g_goto C 38 d_M_wake_116 (by decide) ?_
    exact g_sub [3, 4, 5, 6, 1, 2, 0] rfl (hK38 μ x1 x2 x3 x7 s0 (x6 + (1 : Int32)) hF)
set_option maxHeartbeats 4000000 in
set_option maxRecDepth 100000 in
theorem p_M_wake_83 {p : Program} {l : Launch} {e : Env} {s : State} {m : MethodId} {args : Array Value} {below : List Frame} {meth : Method} {c : Code} {D : va_G} {cs : Nat → ClassId} {a : Nat → Nat} {r : Int32} {μ1 : Mem} (C : Cx p s m args c b_M_wake 9 "TentPegsModel") (hK : va_K D classes (tys cs) s) (hr : meth.sig.returnType = (some .int)) (hlk : meth.locks = false) (K38 : Mem → Int32 → Int32 → Int32 → Int32 → Int32 → Int32 → Option (Int32 × Mem)) (hK38 : ∀ (μ : Mem) (x1 : Int32) (x2 : Int32) (x3 : Int32) (x4 : Int32) (x5 : Int32) (x6 : Int32), K38 μ x1 x2 x3 x4 x5 x6 = some (r, μ1) → G p l e { frames := 6, cells := 0, slots := 0, locals := 144 } s m args below meth c (MQ below (Qi (AM a) D (WM a cs μ1) r) args s 0 0 (AM a)) D (AM a) 9 (WM a cs μ) 38 [(0, .ref (a 0)), (1, .int x1), (2, .int x2), (3, .int x3), (4, .int x4), (5, .int x5), (6, .int x6)] []) (μ : Mem) (x1 : Int32) (x2 : Int32) (x3 : Int32) (x4 : Int32) (x5 : Int32) (x6 : Int32) (x7 : Int32) (s0 : Int32) (hF : F_M_wake_83 K38 μ x1 x2 x3 x4 x5 x6 x7 s0 = some (r, μ1)) : G p l e { frames := 6, cells := 0, slots := 0, locals := 144 } s m args below meth c (MQ below (Qi (AM a) D (WM a cs μ1) r) args s 0 0 (AM a)) D (AM a) 9 (WM a cs μ) 83 [(0, .ref (a 0)), (1, .int x1), (2, .int x2), (3, .int x3), (4, .int x4), (5, .int x5), (6, .int x6), (7, .int x7)] [.int s0] := by
  unfold F_M_wake_83 at hF
  refine g_istore (pc1 := 85) (L1 := [(8, .int s0), (0, .ref (a 0)), (1, .int x1), (2, .int x2), (3, .int x3), (4, .int x4), (5, .int x5), (6, .int x6), (7, .int x7)]) C d_M_wake_83 rfl (by decide) rfl ?_
  refine g_iload (pc1 := 87) C d_M_wake_85 rfl 0 rfl ?_
  refine g_if_eq (pc1 := 90) C 95 d_M_wake_87 rfl (by decide) (fun c1 => ?_) (fun c1 => ?_)
  · replace hF := ite_t hF c1
    refine g_iload (pc1 := 97) C d_M_wake_95 rfl 6 rfl ?_
    exact g_sub [1, 2, 3, 4, 5, 7, 8, 0] rfl (p_M_wake_97 C hK hr hlk K38 hK38 μ x1 x2 x3 x4 x6 x7 s0 x5 hF)
  · replace hF := ite_f hF c1
    refine g_iload (pc1 := 92) C d_M_wake_90 rfl 7 rfl ?_
    refine g_goto C 97 d_M_wake_92 (by decide) ?_
    exact g_sub [1, 2, 3, 4, 5, 7, 8, 0] rfl (p_M_wake_97 C hK hr hlk K38 hK38 μ x1 x2 x3 x4 x6 x7 s0 x6 hF)
set_option maxHeartbeats 4000000 in
set_option maxRecDepth 100000 in
theorem p_M_wake_78 {p : Program} {l : Launch} {e : Env} {s : State} {m : MethodId} {args : Array Value} {below : List Frame} {meth : Method} {c : Code} {D : va_G} {cs : Nat → ClassId} {a : Nat → Nat} {r : Int32} {μ1 : Mem} (C : Cx p s m args c b_M_wake 9 "TentPegsModel") (hK : va_K D classes (tys cs) s) (hr : meth.sig.returnType = (some .int)) (hlk : meth.locks = false) (K38 : Mem → Int32 → Int32 → Int32 → Int32 → Int32 → Int32 → Option (Int32 × Mem)) (hK38 : ∀ (μ : Mem) (x1 : Int32) (x2 : Int32) (x3 : Int32) (x4 : Int32) (x5 : Int32) (x6 : Int32), K38 μ x1 x2 x3 x4 x5 x6 = some (r, μ1) → G p l e { frames := 6, cells := 0, slots := 0, locals := 144 } s m args below meth c (MQ below (Qi (AM a) D (WM a cs μ1) r) args s 0 0 (AM a)) D (AM a) 9 (WM a cs μ) 38 [(0, .ref (a 0)), (1, .int x1), (2, .int x2), (3, .int x3), (4, .int x4), (5, .int x5), (6, .int x6)] []) (μ : Mem) (x1 : Int32) (x2 : Int32) (x3 : Int32) (x4 : Int32) (x5 : Int32) (x6 : Int32) (x7 : Int32) (hF : F_M_wake_78 K38 μ x1 x2 x3 x4 x5 x6 x7 = some (r, μ1)) : G p l e { frames := 6, cells := 0, slots := 0, locals := 144 } s m args below meth c (MQ below (Qi (AM a) D (WM a cs μ1) r) args s 0 0 (AM a)) D (AM a) 9 (WM a cs μ) 78 [(0, .ref (a 0)), (1, .int x1), (2, .int x2), (3, .int x3), (4, .int x4), (5, .int x5), (6, .int x6), (7, .int x7)] [] := by
  unfold F_M_wake_78 at hF
  refine g_iconst (pc1 := 79) (v := (1 : Int32)) C d_M_wake_78 rfl ic_1 ?_
  refine g_goto C 83 d_M_wake_79 (by decide) ?_
  exact g_sub [0, 1, 2, 3, 4, 5, 6, 7] rfl (p_M_wake_83 C hK hr hlk K38 hK38 μ x1 x2 x3 x4 x5 x6 x7 (1 : Int32) hF)
set_option maxHeartbeats 4000000 in
set_option maxRecDepth 100000 in
theorem p_M_wake_82 {p : Program} {l : Launch} {e : Env} {s : State} {m : MethodId} {args : Array Value} {below : List Frame} {meth : Method} {c : Code} {D : va_G} {cs : Nat → ClassId} {a : Nat → Nat} {r : Int32} {μ1 : Mem} (C : Cx p s m args c b_M_wake 9 "TentPegsModel") (hK : va_K D classes (tys cs) s) (hr : meth.sig.returnType = (some .int)) (hlk : meth.locks = false) (K38 : Mem → Int32 → Int32 → Int32 → Int32 → Int32 → Int32 → Option (Int32 × Mem)) (hK38 : ∀ (μ : Mem) (x1 : Int32) (x2 : Int32) (x3 : Int32) (x4 : Int32) (x5 : Int32) (x6 : Int32), K38 μ x1 x2 x3 x4 x5 x6 = some (r, μ1) → G p l e { frames := 6, cells := 0, slots := 0, locals := 144 } s m args below meth c (MQ below (Qi (AM a) D (WM a cs μ1) r) args s 0 0 (AM a)) D (AM a) 9 (WM a cs μ) 38 [(0, .ref (a 0)), (1, .int x1), (2, .int x2), (3, .int x3), (4, .int x4), (5, .int x5), (6, .int x6)] []) (μ : Mem) (x1 : Int32) (x2 : Int32) (x3 : Int32) (x4 : Int32) (x5 : Int32) (x6 : Int32) (x7 : Int32) (hF : F_M_wake_82 K38 μ x1 x2 x3 x4 x5 x6 x7 = some (r, μ1)) : G p l e { frames := 6, cells := 0, slots := 0, locals := 144 } s m args below meth c (MQ below (Qi (AM a) D (WM a cs μ1) r) args s 0 0 (AM a)) D (AM a) 9 (WM a cs μ) 82 [(0, .ref (a 0)), (1, .int x1), (2, .int x2), (3, .int x3), (4, .int x4), (5, .int x5), (6, .int x6), (7, .int x7)] [] := by
  unfold F_M_wake_82 at hF
  refine g_iconst (pc1 := 83) (v := (0 : Int32)) C d_M_wake_82 rfl ic_0 ?_
  exact g_sub [0, 1, 2, 3, 4, 5, 6, 7] rfl (p_M_wake_83 C hK hr hlk K38 hK38 μ x1 x2 x3 x4 x5 x6 x7 (0 : Int32) hF)
set_option maxHeartbeats 4000000 in
set_option maxRecDepth 100000 in
theorem p_M_wake_38 {p : Program} {l : Launch} {e : Env} {s : State} {m : MethodId} {args : Array Value} {below : List Frame} {meth : Method} {c : Code} {D : va_G} {cs : Nat → ClassId} {a : Nat → Nat} {r : Int32} {μ1 : Mem} (C : Cx p s m args c b_M_wake 9 "TentPegsModel") (hK : va_K D classes (tys cs) s) (hr : meth.sig.returnType = (some .int)) (hlk : meth.locks = false)  : ∀ (μ : Mem) (x1 : Int32) (x2 : Int32) (x3 : Int32) (x4 : Int32) (x5 : Int32) (x6 : Int32), F_M_wake_38  μ x1 x2 x3 x4 x5 x6 = some (r, μ1) → G p l e { frames := 6, cells := 0, slots := 0, locals := 144 } s m args below meth c (MQ below (Qi (AM a) D (WM a cs μ1) r) args s 0 0 (AM a)) D (AM a) 9 (WM a cs μ) 38 [(0, .ref (a 0)), (1, .int x1), (2, .int x2), (3, .int x3), (4, .int x4), (5, .int x5), (6, .int x6)] [] := by
  refine iter_ind (fun (K38 : Mem → Int32 → Int32 → Int32 → Int32 → Int32 → Int32 → Option (Int32 × Mem)) => ∀ (μ : Mem) (x1 : Int32) (x2 : Int32) (x3 : Int32) (x4 : Int32) (x5 : Int32) (x6 : Int32), K38 μ x1 x2 x3 x4 x5 x6 = some (r, μ1) → G p l e { frames := 6, cells := 0, slots := 0, locals := 144 } s m args below meth c (MQ below (Qi (AM a) D (WM a cs μ1) r) args s 0 0 (AM a)) D (AM a) 9 (WM a cs μ) 38 [(0, .ref (a 0)), (1, .int x1), (2, .int x2), (3, .int x3), (4, .int x4), (5, .int x5), (6, .int x6)] []) ?_ ?_ NF
  · intro μ x1 x2 x3 x4 x5 x6 hF
    exact none_no hF
  · intro K38 hK38 μ x1 x2 x3 x4 x5 x6 hF
    unfold S_M_wake_38 at hF
    refine g_iload (pc1 := 40) C d_M_wake_38 rfl 6 rfl ?_
    refine g_iload_n (pc1 := 41) C d_M_wake_40 rfl rfl 1 rfl ?_
    refine g_icmp_gt (pc1 := 44) C 119 d_M_wake_41 rfl (by decide) (fun c1 => ?_) (fun c1 => ?_)
    · replace hF := ite_t hF c1
      refine g_iload (pc1 := 121) C d_M_wake_119 rfl 5 rfl ?_
      exact g_iret C hr hlk d_M_wake_121 (fst_of hF) (congrArg (WM a cs) (snd_of hF))
    · replace hF := ite_f hF c1
      refine g_aload_n (pc1 := 45) C d_M_wake_44 rfl rfl 0 rfl ?_
      refine g_iload_n (pc1 := 46) C d_M_wake_45 rfl rfl 1 rfl ?_
      refine g_iload_n (pc1 := 47) C d_M_wake_46 rfl rfl 2 rfl ?_
      refine g_iload_n (pc1 := 48) C d_M_wake_47 rfl rfl 3 rfl ?_
      refine g_iload (pc1 := 50) C d_M_wake_48 rfl 6 rfl ?_
      obtain ⟨⟨r1, m1⟩, hm1, hF⟩ := bnd_some hF
      refine g_callVI (pc1 := 53) (ws1 := WM a cs m1) (As := [.int x1, .int x2, .int x3, .int x6]) (rest := []) (b := a 0) C hK 4 (c_M_nightOf l D cs a μ x1 x2 x3 x6 r1 m1 hm1) s_M_nightOf kw_263 0 rfl rfl rfl ⟨Nat.le_of_ble_eq_true rfl, Nat.le_of_ble_eq_true rfl⟩ ⟨rfl, rfl⟩ d_M_wake_50 rfl rfl (Nat.le_of_ble_eq_true rfl) ?_
      obtain ⟨r2, hr2, hF⟩ := bnd_some hF
      refine g_callSI (pc1 := 56) (As := [.int r1]) (rest := []) C 1 (c_M_bits l r1 r2 hr2) s_M_bits kw_177 rfl ⟨Nat.le_of_ble_eq_true rfl, Nat.le_of_ble_eq_true rfl⟩ ⟨rfl, rfl⟩ d_M_wake_53 rfl rfl (Nat.le_of_ble_eq_true rfl) ?_
      refine g_istore (pc1 := 58) (L1 := [(7, .int r2), (0, .ref (a 0)), (1, .int x1), (2, .int x2), (3, .int x3), (4, .int x4), (5, .int x5), (6, .int x6)]) C d_M_wake_56 rfl (by decide) rfl ?_
      refine g_iload (pc1 := 60) C d_M_wake_58 rfl 0 rfl ?_
      refine g_iload (pc1 := 62) C d_M_wake_60 rfl 5 rfl ?_
      refine g_icmp_gt (pc1 := 65) C 78 d_M_wake_62 rfl (by decide) (fun c1 => ?_) (fun c1 => ?_)
      · replace hF := ite_t hF c1
        exact g_sub [1, 2, 3, 4, 5, 6, 7, 0] rfl (p_M_wake_78 C hK hr hlk K38 hK38 m1 x1 x2 x3 x4 x5 x6 r2 hF)
      · replace hF := ite_f hF c1
        refine g_iload (pc1 := 67) C d_M_wake_65 rfl 0 rfl ?_
        refine g_iload (pc1 := 69) C d_M_wake_67 rfl 5 rfl ?_
        refine g_icmp_ne (pc1 := 72) C 82 d_M_wake_69 rfl (by decide) (fun c1 => ?_) (fun c1 => ?_)
        · replace hF := ite_f hF c1
          exact g_sub [1, 2, 3, 4, 5, 6, 7, 0] rfl (p_M_wake_82 C hK hr hlk K38 hK38 m1 x1 x2 x3 x4 x5 x6 r2 hF)
        · replace hF := ite_t hF c1
          refine g_iload (pc1 := 74) C d_M_wake_72 rfl 6 rfl ?_
          refine g_iconst (pc1 := 75) (v := (-1 : Int32)) C d_M_wake_74 rfl ic_m1 ?_
          refine g_icmp_eq (pc1 := 78) C 82 d_M_wake_75 rfl (by decide) (fun c1 => ?_) (fun c1 => ?_)
          · replace hF := ite_t hF c1
            exact g_sub [1, 2, 3, 4, 5, 6, 7, 0] rfl (p_M_wake_82 C hK hr hlk K38 hK38 m1 x1 x2 x3 x4 x5 x6 r2 hF)
          · replace hF := ite_f hF c1
            exact g_sub [1, 2, 3, 4, 5, 6, 7, 0] rfl (p_M_wake_78 C hK hr hlk K38 hK38 m1 x1 x2 x3 x4 x5 x6 r2 hF)
set_option maxHeartbeats 4000000 in
set_option maxRecDepth 100000 in
theorem c_M_wake (l : Launch) (D : va_G) (cs : Nat → ClassId) (a : Nat → Nat) (μ : Mem) (x1 : Int32) (x2 : Int32) (x3 : Int32) (r : Int32) (μ1 : Mem) (hF : F_M_wake μ x1 x2 x3 = some (r, μ1)) : MetI l y_M_wake b_M_wake 9 (some .int) { frames := 6, cells := 0, slots := 0, locals := 144 } D cs (AM a) (WM a cs μ) [.ref (a 0), .int x1, .int x2, .int x3] r (WM a cs μ1) := by
  refine met_of rfl (by decide +kernel) (Nat.le_of_ble_eq_true rfl) (fun p e s m below meth c C hK hr hlk => ?_)
  unfold F_M_wake at hF
  show G p l e { frames := 6, cells := 0, slots := 0, locals := 144 } s m _ below meth c _ D (AM a) 9 (WM a cs μ) 0 [(0, .ref (a 0)), (1, .int x1), (2, .int x2), (3, .int x3)] []
  refine g_aload_n (pc1 := 1) C d_M_wake_0 rfl rfl 0 rfl ?_
  refine g_iconst (pc1 := 2) (v := (0 : Int32)) C d_M_wake_1 rfl ic_0 ?_
  refine put_WM_0_thrown (pc1 := 5) C hK kw_178 d_M_wake_2 rfl ?_
  refine g_iload_n (pc1 := 6) C d_M_wake_5 rfl rfl 1 rfl ?_
  refine g_iload_n (pc1 := 7) C d_M_wake_6 rfl rfl 2 rfl ?_
  refine g_iload_n (pc1 := 8) C d_M_wake_7 rfl rfl 3 rfl ?_
  obtain ⟨r1, hr1, hF⟩ := bnd_some hF
  refine g_callSI (pc1 := 11) (As := [.int x1, .int x2, .int x3]) (rest := []) C 3 (c_M_noNight l x1 x2 x3 r1 hr1) s_M_noNight kw_262 rfl ⟨Nat.le_of_ble_eq_true rfl, Nat.le_of_ble_eq_true rfl⟩ ⟨rfl, rfl⟩ d_M_wake_8 rfl rfl (Nat.le_of_ble_eq_true rfl) ?_
  refine g_if_eq (pc1 := 14) C 19 d_M_wake_11 rfl (by decide) (fun c1 => ?_) (fun c1 => ?_)
  · replace hF := ite_t hF c1
    refine g_aload_n (pc1 := 20) C d_M_wake_19 rfl rfl 0 rfl ?_
    refine g_iload_n (pc1 := 21) C d_M_wake_20 rfl rfl 1 rfl ?_
    refine g_iload_n (pc1 := 22) C d_M_wake_21 rfl rfl 2 rfl ?_
    refine g_iload_n (pc1 := 23) C d_M_wake_22 rfl rfl 3 rfl ?_
    refine g_iconst (pc1 := 24) (v := (-1 : Int32)) C d_M_wake_23 rfl ic_m1 ?_
    obtain ⟨⟨r2, m2⟩, hm2, hF⟩ := bnd_some hF
    refine g_callVI (pc1 := 27) (ws1 := WM a cs m2) (As := [.int x1, .int x2, .int x3, .int (-1 : Int32)]) (rest := []) (b := a 0) C hK 4 (c_M_nightOf l D cs a (stI μ 0 0 (0 : Int32)) x1 x2 x3 (-1 : Int32) r2 m2 hm2) s_M_nightOf kw_263 0 rfl rfl rfl ⟨Nat.le_of_ble_eq_true rfl, Nat.le_of_ble_eq_true rfl⟩ ⟨rfl, rfl⟩ d_M_wake_24 rfl rfl (Nat.le_of_ble_eq_true rfl) ?_
    obtain ⟨r3, hr3, hF⟩ := bnd_some hF
    refine g_callSI (pc1 := 30) (As := [.int r2]) (rest := []) C 1 (c_M_bits l r2 r3 hr3) s_M_bits kw_177 rfl ⟨Nat.le_of_ble_eq_true rfl, Nat.le_of_ble_eq_true rfl⟩ ⟨rfl, rfl⟩ d_M_wake_27 rfl rfl (Nat.le_of_ble_eq_true rfl) ?_
    refine g_istore (pc1 := 32) (L1 := [(4, .int r3), (0, .ref (a 0)), (1, .int x1), (2, .int x2), (3, .int x3)]) C d_M_wake_30 rfl (by decide) rfl ?_
    refine g_iconst (pc1 := 33) (v := (-1 : Int32)) C d_M_wake_32 rfl ic_m1 ?_
    refine g_istore (pc1 := 35) (L1 := [(5, .int (-1 : Int32)), (4, .int r3), (0, .ref (a 0)), (1, .int x1), (2, .int x2), (3, .int x3)]) C d_M_wake_33 rfl (by decide) rfl ?_
    refine g_iconst (pc1 := 36) (v := (0 : Int32)) C d_M_wake_35 rfl ic_0 ?_
    refine g_istore (pc1 := 38) (L1 := [(6, .int (0 : Int32)), (5, .int (-1 : Int32)), (4, .int r3), (0, .ref (a 0)), (1, .int x1), (2, .int x2), (3, .int x3)]) C d_M_wake_36 rfl (by decide) rfl ?_
    exact g_sub [3, 4, 5, 6, 2, 1, 0] rfl (p_M_wake_38 C hK hr hlk  m2 x1 x2 x3 r3 (-1 : Int32) (0 : Int32) hF)
  · replace hF := ite_f hF c1
    refine g_aload_n (pc1 := 15) C d_M_wake_14 rfl rfl 0 rfl ?_
    obtain ⟨⟨r4, m4⟩, hm4, hF⟩ := bnd_some hF
    refine g_callVI (pc1 := 18) (ws1 := WM a cs m4) (As := []) (rest := []) (b := a 0) C hK 0 (c_M_badTen l D cs a (stI μ 0 0 (0 : Int32))  r4 m4 hm4) s_M_badTen kw_238 0 rfl rfl rfl ⟨Nat.le_of_ble_eq_true rfl, Nat.le_of_ble_eq_true rfl⟩ ⟨rfl, rfl⟩ d_M_wake_15 rfl rfl (Nat.le_of_ble_eq_true rfl) ?_
    exact g_iret C hr hlk d_M_wake_18 (fst_of hF) (congrArg (WM a cs) (snd_of hF))
-- TentPegsModel.image(I)I
set_option maxHeartbeats 4000000 in
set_option maxRecDepth 100000 in
theorem p_M_image_22 {p : Program} {l : Launch} {e : Env} {s : State} {m : MethodId} {args : Array Value} {below : List Frame} {meth : Method} {c : Code} {D : va_G} {cs : Nat → ClassId} {a : Nat → Nat} {r : Int32} {μ1 : Mem} (C : Cx p s m args c b_M_image 3 "TentPegsModel") (hK : va_K D classes (tys cs) s) (hr : meth.sig.returnType = (some .int)) (hlk : meth.locks = false)  : ∀ (μ : Mem) (x1 : Int32) (x2 : Int32), F_M_image_22  μ x1 x2 = some (r, μ1) → G p l e { frames := 2, cells := 0, slots := 0, locals := 42 } s m args below meth c (MQ below (Qi (AM a) D (WM a cs μ1) r) args s 0 0 (AM a)) D (AM a) 3 (WM a cs μ) 22 [(0, .ref (a 0)), (1, .int x1), (2, .int x2)] [] := by
  refine iter_ind (fun (K22 : Mem → Int32 → Int32 → Option (Int32 × Mem)) => ∀ (μ : Mem) (x1 : Int32) (x2 : Int32), K22 μ x1 x2 = some (r, μ1) → G p l e { frames := 2, cells := 0, slots := 0, locals := 42 } s m args below meth c (MQ below (Qi (AM a) D (WM a cs μ1) r) args s 0 0 (AM a)) D (AM a) 3 (WM a cs μ) 22 [(0, .ref (a 0)), (1, .int x1), (2, .int x2)] []) ?_ ?_ NF
  · intro μ x1 x2 hF
    exact none_no hF
  · intro K22 hK22 μ x1 x2 hF
    unfold S_M_image_22 at hF
    refine g_iload_n (pc1 := 23) C d_M_image_22 rfl rfl 2 rfl ?_
    refine g_bipush (pc1 := 25) (v := (47 : Int32)) C d_M_image_23 rfl bp_47 ?_
    refine g_icmp_ge (pc1 := 28) C 51 d_M_image_25 rfl (by decide) (fun c1 => ?_) (fun c1 => ?_)
    · replace hF := ite_t hF c1
      refine g_aload_n (pc1 := 52) C d_M_image_51 rfl rfl 0 rfl ?_
      refine get_WM_0_isKept (pc1 := 55) C hK kw_264 d_M_image_52 rfl ?_
      refine g_iload_n (pc1 := 56) C d_M_image_55 rfl rfl 1 rfl ?_
      refine g_iconst (pc1 := 57) (v := (1 : Int32)) C d_M_image_56 rfl ic_1 ?_
      have hg := gd_some hF
      replace hF := hg.2
      refine g_zast (pc1 := 58) (ws1 := WM a cs (stI μ 5 x1.toNatClampNeg (vp_nar .boolean (1 : Int32)))) C hK 5 (f := (μ.1 5)) rfl hg.1 (set_WM_5 _ _ _ _ _) d_M_image_57 rfl ?_
      refine g_iconst (pc1 := 59) (v := (1 : Int32)) C d_M_image_58 rfl ic_1 ?_
      exact g_iret C hr hlk d_M_image_59 (fst_of hF) (congrArg (WM a cs) (snd_of hF))
    · replace hF := ite_f hF c1
      refine g_aload_n (pc1 := 29) C d_M_image_28 rfl rfl 0 rfl ?_
      refine get_WM_0_kept (pc1 := 32) C hK kw_265 d_M_image_29 rfl ?_
      refine g_bipush (pc1 := 34) (v := (47 : Int32)) C d_M_image_32 rfl bp_47 ?_
      refine g_iload_n (pc1 := 35) C d_M_image_34 rfl rfl 1 rfl ?_
      refine g_imul (pc1 := 36) C d_M_image_35 rfl ?_
      refine g_iload_n (pc1 := 37) C d_M_image_36 rfl rfl 2 rfl ?_
      refine g_iadd (pc1 := 38) C d_M_image_37 rfl ?_
      refine g_aload_n (pc1 := 39) C d_M_image_38 rfl rfl 0 rfl ?_
      refine get_WM_0_field (pc1 := 42) C hK kw_172 d_M_image_39 rfl ?_
      refine g_iload_n (pc1 := 43) C d_M_image_42 rfl rfl 2 rfl ?_
      have hg := gd_some hF
      replace hF := hg.2
      refine g_iald (pc1 := 44) C hK 2 (f := (μ.1 2)) rfl hg.1 d_M_image_43 rfl ?_
      have hg := gd_some hF
      replace hF := hg.2
      refine g_iast (pc1 := 45) (ws1 := WM a cs (stI μ 4 (((47 : Int32) * x1) + x2).toNatClampNeg ((μ.1 2) x2.toNatClampNeg))) C hK 4 (f := (μ.1 4)) rfl hg.1 (set_WM_4 _ _ _ _ _) d_M_image_44 rfl ?_
      refine g_iinc (pc1 := 48) (v := (x2 + (1 : Int32))) (L1 := [(2, .int (x2 + (1 : Int32))), (0, .ref (a 0)), (1, .int x1)]) C d_M_image_45 rfl 2 rfl (by rw [ic_1]) (by decide) rfl ?_
      refine g_goto C 22 d_M_image_48 (by decide) ?_
      exact g_sub [1, 2, 0] rfl (hK22 (stI μ 4 (((47 : Int32) * x1) + x2).toNatClampNeg ((μ.1 2) x2.toNatClampNeg)) x1 (x2 + (1 : Int32)) hF)
set_option maxHeartbeats 4000000 in
set_option maxRecDepth 100000 in
theorem c_M_image (l : Launch) (D : va_G) (cs : Nat → ClassId) (a : Nat → Nat) (μ : Mem) (x1 : Int32) (r : Int32) (μ1 : Mem) (hF : F_M_image μ x1 = some (r, μ1)) : MetI l y_M_image b_M_image 3 (some .int) { frames := 2, cells := 0, slots := 0, locals := 42 } D cs (AM a) (WM a cs μ) [.ref (a 0), .int x1] r (WM a cs μ1) := by
  refine met_of rfl (by decide +kernel) (Nat.le_of_ble_eq_true rfl) (fun p e s m below meth c C hK hr hlk => ?_)
  unfold F_M_image at hF
  show G p l e { frames := 2, cells := 0, slots := 0, locals := 42 } s m _ below meth c _ D (AM a) 3 (WM a cs μ) 0 [(0, .ref (a 0)), (1, .int x1)] []
  refine g_aload_n (pc1 := 1) C d_M_image_0 rfl rfl 0 rfl ?_
  refine g_iconst (pc1 := 2) (v := (0 : Int32)) C d_M_image_1 rfl ic_0 ?_
  refine put_WM_0_thrown (pc1 := 5) C hK kw_178 d_M_image_2 rfl ?_
  refine g_iload_n (pc1 := 6) C d_M_image_5 rfl rfl 1 rfl ?_
  refine g_i2l (pc1 := 7) C d_M_image_6 rfl ?_
  refine g_lconst (pc1 := 8) (v := (0 : Int64)) C d_M_image_7 rfl lc_0 ?_
  refine g_lconst (pc1 := 9) (v := (1 : Int64)) C d_M_image_8 rfl lc_1 ?_
  obtain ⟨r1, hr1, hF⟩ := bnd_some hF
  refine g_callSI (pc1 := 12) (As := [.long (x1.toInt64), .long (0 : Int64), .long (1 : Int64)]) (rest := []) C 3 (c_M_in l (x1.toInt64) (0 : Int64) (1 : Int64) r1 hr1) s_M_in kw_173 rfl ⟨Nat.le_of_ble_eq_true rfl, Nat.le_of_ble_eq_true rfl⟩ ⟨rfl, rfl⟩ d_M_image_9 rfl rfl (Nat.le_of_ble_eq_true rfl) ?_
  refine g_if_ne (pc1 := 15) C 20 d_M_image_12 rfl (by decide) (fun c1 => ?_) (fun c1 => ?_)
  · replace hF := ite_f hF c1
    refine g_iconst (pc1 := 21) (v := (0 : Int32)) C d_M_image_20 rfl ic_0 ?_
    refine g_istore_n (pc1 := 22) (L1 := [(2, .int (0 : Int32)), (0, .ref (a 0)), (1, .int x1)]) C d_M_image_21 rfl rfl (by decide) rfl ?_
    exact g_sub [1, 2, 0] rfl (p_M_image_22 C hK hr hlk  (stI μ 0 0 (0 : Int32)) x1 (0 : Int32) hF)
  · replace hF := ite_t hF c1
    refine g_aload_n (pc1 := 16) C d_M_image_15 rfl rfl 0 rfl ?_
    obtain ⟨⟨r2, m2⟩, hm2, hF⟩ := bnd_some hF
    refine g_callVI (pc1 := 19) (ws1 := WM a cs m2) (As := []) (rest := []) (b := a 0) C hK 0 (c_M_bad l D cs a (stI μ 0 0 (0 : Int32))  r2 m2 hm2) s_M_bad kw_182 0 rfl rfl rfl ⟨Nat.le_of_ble_eq_true rfl, Nat.le_of_ble_eq_true rfl⟩ ⟨rfl, rfl⟩ d_M_image_16 rfl rfl (Nat.le_of_ble_eq_true rfl) ?_
    exact g_iret C hr hlk d_M_image_19 (fst_of hF) (congrArg (WM a cs) (snd_of hF))
-- TentPegsModel.from(I)I
set_option maxHeartbeats 4000000 in
set_option maxRecDepth 100000 in
theorem p_M_from_36 {p : Program} {l : Launch} {e : Env} {s : State} {m : MethodId} {args : Array Value} {below : List Frame} {meth : Method} {c : Code} {D : va_G} {cs : Nat → ClassId} {a : Nat → Nat} {r : Int32} {μ1 : Mem} (C : Cx p s m args c b_M_from 3 "TentPegsModel") (hK : va_K D classes (tys cs) s) (hr : meth.sig.returnType = (some .int)) (hlk : meth.locks = false)  : ∀ (μ : Mem) (x1 : Int32) (x2 : Int32), F_M_from_36  μ x1 x2 = some (r, μ1) → G p l e { frames := 2, cells := 0, slots := 0, locals := 42 } s m args below meth c (MQ below (Qi (AM a) D (WM a cs μ1) r) args s 0 0 (AM a)) D (AM a) 3 (WM a cs μ) 36 [(0, .ref (a 0)), (1, .int x1), (2, .int x2)] [] := by
  refine iter_ind (fun (K36 : Mem → Int32 → Int32 → Option (Int32 × Mem)) => ∀ (μ : Mem) (x1 : Int32) (x2 : Int32), K36 μ x1 x2 = some (r, μ1) → G p l e { frames := 2, cells := 0, slots := 0, locals := 42 } s m args below meth c (MQ below (Qi (AM a) D (WM a cs μ1) r) args s 0 0 (AM a)) D (AM a) 3 (WM a cs μ) 36 [(0, .ref (a 0)), (1, .int x1), (2, .int x2)] []) ?_ ?_ NF
  · intro μ x1 x2 hF
    exact none_no hF
  · intro K36 hK36 μ x1 x2 hF
    unfold S_M_from_36 at hF
    refine g_iload_n (pc1 := 37) C d_M_from_36 rfl rfl 2 rfl ?_
    refine g_bipush (pc1 := 39) (v := (47 : Int32)) C d_M_from_37 rfl bp_47 ?_
    refine g_icmp_ge (pc1 := 42) C 65 d_M_from_39 rfl (by decide) (fun c1 => ?_) (fun c1 => ?_)
    · replace hF := ite_t hF c1
      refine g_iconst (pc1 := 66) (v := (1 : Int32)) C d_M_from_65 rfl ic_1 ?_
      exact g_iret C hr hlk d_M_from_66 (fst_of hF) (congrArg (WM a cs) (snd_of hF))
    · replace hF := ite_f hF c1
      refine g_aload_n (pc1 := 43) C d_M_from_42 rfl rfl 0 rfl ?_
      refine get_WM_0_field (pc1 := 46) C hK kw_172 d_M_from_43 rfl ?_
      refine g_iload_n (pc1 := 47) C d_M_from_46 rfl rfl 2 rfl ?_
      refine g_aload_n (pc1 := 48) C d_M_from_47 rfl rfl 0 rfl ?_
      refine get_WM_0_kept (pc1 := 51) C hK kw_265 d_M_from_48 rfl ?_
      refine g_bipush (pc1 := 53) (v := (47 : Int32)) C d_M_from_51 rfl bp_47 ?_
      refine g_iload_n (pc1 := 54) C d_M_from_53 rfl rfl 1 rfl ?_
      refine g_imul (pc1 := 55) C d_M_from_54 rfl ?_
      refine g_iload_n (pc1 := 56) C d_M_from_55 rfl rfl 2 rfl ?_
      refine g_iadd (pc1 := 57) C d_M_from_56 rfl ?_
      have hg := gd_some hF
      replace hF := hg.2
      refine g_iald (pc1 := 58) C hK 4 (f := (μ.1 4)) rfl hg.1 d_M_from_57 rfl ?_
      have hg := gd_some hF
      replace hF := hg.2
      refine g_iast (pc1 := 59) (ws1 := WM a cs (stI μ 2 x2.toNatClampNeg ((μ.1 4) (((47 : Int32) * x1) + x2).toNatClampNeg))) C hK 2 (f := (μ.1 2)) rfl hg.1 (set_WM_2 _ _ _ _ _) d_M_from_58 rfl ?_
      refine g_iinc (pc1 := 62) (v := (x2 + (1 : Int32))) (L1 := [(2, .int (x2 + (1 : Int32))), (0, .ref (a 0)), (1, .int x1)]) C d_M_from_59 rfl 2 rfl (by rw [ic_1]) (by decide) rfl ?_
      refine g_goto C 36 d_M_from_62 (by decide) ?_
      exact g_sub [1, 2, 0] rfl (hK36 (stI μ 2 x2.toNatClampNeg ((μ.1 4) (((47 : Int32) * x1) + x2).toNatClampNeg)) x1 (x2 + (1 : Int32)) hF)
set_option maxHeartbeats 4000000 in
set_option maxRecDepth 100000 in
theorem c_M_from (l : Launch) (D : va_G) (cs : Nat → ClassId) (a : Nat → Nat) (μ : Mem) (x1 : Int32) (r : Int32) (μ1 : Mem) (hF : F_M_from μ x1 = some (r, μ1)) : MetI l y_M_from b_M_from 3 (some .int) { frames := 2, cells := 0, slots := 0, locals := 42 } D cs (AM a) (WM a cs μ) [.ref (a 0), .int x1] r (WM a cs μ1) := by
  refine met_of rfl (by decide +kernel) (Nat.le_of_ble_eq_true rfl) (fun p e s m below meth c C hK hr hlk => ?_)
  unfold F_M_from at hF
  show G p l e { frames := 2, cells := 0, slots := 0, locals := 42 } s m _ below meth c _ D (AM a) 3 (WM a cs μ) 0 [(0, .ref (a 0)), (1, .int x1)] []
  refine g_aload_n (pc1 := 1) C d_M_from_0 rfl rfl 0 rfl ?_
  refine g_iconst (pc1 := 2) (v := (0 : Int32)) C d_M_from_1 rfl ic_0 ?_
  refine put_WM_0_thrown (pc1 := 5) C hK kw_178 d_M_from_2 rfl ?_
  refine g_iload_n (pc1 := 6) C d_M_from_5 rfl rfl 1 rfl ?_
  refine g_i2l (pc1 := 7) C d_M_from_6 rfl ?_
  refine g_lconst (pc1 := 8) (v := (0 : Int64)) C d_M_from_7 rfl lc_0 ?_
  refine g_lconst (pc1 := 9) (v := (1 : Int64)) C d_M_from_8 rfl lc_1 ?_
  obtain ⟨r1, hr1, hF⟩ := bnd_some hF
  refine g_callSI (pc1 := 12) (As := [.long (x1.toInt64), .long (0 : Int64), .long (1 : Int64)]) (rest := []) C 3 (c_M_in l (x1.toInt64) (0 : Int64) (1 : Int64) r1 hr1) s_M_in kw_173 rfl ⟨Nat.le_of_ble_eq_true rfl, Nat.le_of_ble_eq_true rfl⟩ ⟨rfl, rfl⟩ d_M_from_9 rfl rfl (Nat.le_of_ble_eq_true rfl) ?_
  refine g_if_ne (pc1 := 15) C 20 d_M_from_12 rfl (by decide) (fun c1 => ?_) (fun c1 => ?_)
  · replace hF := ite_f hF c1
    refine g_aload_n (pc1 := 21) C d_M_from_20 rfl rfl 0 rfl ?_
    refine get_WM_0_isKept (pc1 := 24) C hK kw_264 d_M_from_21 rfl ?_
    refine g_iload_n (pc1 := 25) C d_M_from_24 rfl rfl 1 rfl ?_
    have hg := gd_some hF
    replace hF := hg.2
    refine g_zald (pc1 := 26) C hK 5 (f := (μ.1 5)) rfl hg.1 d_M_from_25 rfl ?_
    refine g_if_ne (pc1 := 29) C 34 d_M_from_26 rfl (by decide) (fun c1 => ?_) (fun c1 => ?_)
    · replace hF := ite_f hF c1
      refine g_iconst (pc1 := 35) (v := (0 : Int32)) C d_M_from_34 rfl ic_0 ?_
      refine g_istore_n (pc1 := 36) (L1 := [(2, .int (0 : Int32)), (0, .ref (a 0)), (1, .int x1)]) C d_M_from_35 rfl rfl (by decide) rfl ?_
      exact g_sub [1, 2, 0] rfl (p_M_from_36 C hK hr hlk  (stI μ 0 0 (0 : Int32)) x1 (0 : Int32) hF)
    · replace hF := ite_t hF c1
      refine g_aload_n (pc1 := 30) C d_M_from_29 rfl rfl 0 rfl ?_
      obtain ⟨⟨r2, m2⟩, hm2, hF⟩ := bnd_some hF
      refine g_callVI (pc1 := 33) (ws1 := WM a cs m2) (As := []) (rest := []) (b := a 0) C hK 0 (c_M_no l D cs a (stI μ 0 0 (0 : Int32))  r2 m2 hm2) s_M_no kw_189 0 rfl rfl rfl ⟨Nat.le_of_ble_eq_true rfl, Nat.le_of_ble_eq_true rfl⟩ ⟨rfl, rfl⟩ d_M_from_30 rfl rfl (Nat.le_of_ble_eq_true rfl) ?_
      exact g_iret C hr hlk d_M_from_33 (fst_of hF) (congrArg (WM a cs) (snd_of hF))
  · replace hF := ite_t hF c1
    refine g_aload_n (pc1 := 16) C d_M_from_15 rfl rfl 0 rfl ?_
    obtain ⟨⟨r3, m3⟩, hm3, hF⟩ := bnd_some hF
    refine g_callVI (pc1 := 19) (ws1 := WM a cs m3) (As := []) (rest := []) (b := a 0) C hK 0 (c_M_bad l D cs a (stI μ 0 0 (0 : Int32))  r3 m3 hm3) s_M_bad kw_182 0 rfl rfl rfl ⟨Nat.le_of_ble_eq_true rfl, Nat.le_of_ble_eq_true rfl⟩ ⟨rfl, rfl⟩ d_M_from_16 rfl rfl (Nat.le_of_ble_eq_true rfl) ?_
    exact g_iret C hr hlk d_M_from_19 (fst_of hF) (congrArg (WM a cs) (snd_of hF))
-- TentPegsModel.status(I)I
set_option maxHeartbeats 4000000 in
set_option maxRecDepth 100000 in
theorem c_M_status (l : Launch) (D : va_G) (cs : Nat → ClassId) (a : Nat → Nat) (μ : Mem) (x1 : Int32) (r : Int32) (μ1 : Mem) (hF : F_M_status μ x1 = some (r, μ1)) : MetI l y_M_status b_M_status 2 (some .int) { frames := 1, cells := 0, slots := 0, locals := 25 } D cs (AM a) (WM a cs μ) [.ref (a 0), .int x1] r (WM a cs μ1) := by
  refine met_of rfl (by decide +kernel) (Nat.le_of_ble_eq_true rfl) (fun p e s m below meth c C hK hr hlk => ?_)
  unfold F_M_status at hF
  show G p l e { frames := 1, cells := 0, slots := 0, locals := 25 } s m _ below meth c _ D (AM a) 2 (WM a cs μ) 0 [(0, .ref (a 0)), (1, .int x1)] []
  refine g_aload_n (pc1 := 1) C d_M_status_0 rfl rfl 0 rfl ?_
  refine g_iconst (pc1 := 2) (v := (0 : Int32)) C d_M_status_1 rfl ic_0 ?_
  refine put_WM_0_thrown (pc1 := 5) C hK kw_178 d_M_status_2 rfl ?_
  refine g_iload_n (pc1 := 6) C d_M_status_5 rfl rfl 1 rfl ?_
  refine g_i2l (pc1 := 7) C d_M_status_6 rfl ?_
  refine g_lconst (pc1 := 8) (v := (0 : Int64)) C d_M_status_7 rfl lc_0 ?_
  refine g_ldc2 (pc1 := 11) (v := (2 : Int64)) C d_M_status_8 rfl kw_179 ?_
  obtain ⟨r1, hr1, hF⟩ := bnd_some hF
  refine g_callSI (pc1 := 14) (As := [.long (x1.toInt64), .long (0 : Int64), .long (2 : Int64)]) (rest := []) C 3 (c_M_in l (x1.toInt64) (0 : Int64) (2 : Int64) r1 hr1) s_M_in kw_173 rfl ⟨Nat.le_of_ble_eq_true rfl, Nat.le_of_ble_eq_true rfl⟩ ⟨rfl, rfl⟩ d_M_status_11 rfl rfl (Nat.le_of_ble_eq_true rfl) ?_
  refine g_if_eq (pc1 := 17) C 26 d_M_status_14 rfl (by decide) (fun c1 => ?_) (fun c1 => ?_)
  · replace hF := ite_t hF c1
    refine g_aload_n (pc1 := 27) C d_M_status_26 rfl rfl 0 rfl ?_
    refine g_iconst (pc1 := 28) (v := (0 : Int32)) C d_M_status_27 rfl ic_0 ?_
    refine g_iconst (pc1 := 29) (v := (-1 : Int32)) C d_M_status_28 rfl ic_m1 ?_
    obtain ⟨⟨r2, m2⟩, hm2, hF⟩ := bnd_some hF
    refine g_callVI (pc1 := 32) (ws1 := WM a cs m2) (As := [.int (0 : Int32), .int (-1 : Int32)]) (rest := []) (b := a 0) C hK 2 (c_M_refuse l D cs a (stI μ 0 0 (0 : Int32)) (0 : Int32) (-1 : Int32) r2 m2 hm2) s_M_refuse kw_171 0 rfl rfl rfl ⟨Nat.le_of_ble_eq_true rfl, Nat.le_of_ble_eq_true rfl⟩ ⟨rfl, rfl⟩ d_M_status_29 rfl rfl (Nat.le_of_ble_eq_true rfl) ?_
    exact g_iret C hr hlk d_M_status_32 (fst_of hF) (congrArg (WM a cs) (snd_of hF))
  · replace hF := ite_f hF c1
    refine g_aload_n (pc1 := 18) C d_M_status_17 rfl rfl 0 rfl ?_
    refine get_WM_0_refused (pc1 := 21) C hK kw_170 d_M_status_18 rfl ?_
    refine g_iload_n (pc1 := 22) C d_M_status_21 rfl rfl 1 rfl ?_
    have hg := gd_some hF
    replace hF := hg.2
    refine g_iald (pc1 := 23) C hK 1 (f := (μ.1 1)) rfl hg.1 d_M_status_22 rfl ?_
    refine g_goto C 32 d_M_status_23 (by decide) ?_
    exact g_iret C hr hlk d_M_status_32 (fst_of hF) (congrArg (WM a cs) (snd_of hF))
-- TentPegsModel.countOf(I)I
set_option maxHeartbeats 4000000 in
set_option maxRecDepth 100000 in
theorem c_M_countOf (l : Launch) (D : va_G) (cs : Nat → ClassId) (a : Nat → Nat) (μ : Mem) (x1 : Int32) (r : Int32) (hF : F_M_countOf μ x1 = some r) : MetI l y_M_countOf b_M_countOf 2 (some .int) { frames := 1, cells := 0, slots := 0, locals := 22 } D cs (AM a) (WM a cs μ) [.ref (a 0), .int x1] r (WM a cs μ) := by
  refine met_of rfl (by decide +kernel) (Nat.le_of_ble_eq_true rfl) (fun p e s m below meth c C hK hr hlk => ?_)
  unfold F_M_countOf at hF
  show G p l e { frames := 1, cells := 0, slots := 0, locals := 22 } s m _ below meth c _ D (AM a) 2 (WM a cs μ) 0 [(0, .ref (a 0)), (1, .int x1)] []
  refine g_iload_n (pc1 := 1) C d_M_countOf_0 rfl rfl 1 rfl ?_
  refine g_if_ne (pc1 := 4) C 13 d_M_countOf_1 rfl (by decide) (fun c1 => ?_) (fun c1 => ?_)
  · replace hF := ite_f hF c1
    refine g_iload_n (pc1 := 14) C d_M_countOf_13 rfl rfl 1 rfl ?_
    refine g_iconst (pc1 := 15) (v := (1 : Int32)) C d_M_countOf_14 rfl ic_1 ?_
    refine g_icmp_ne (pc1 := 18) C 30 d_M_countOf_15 rfl (by decide) (fun c1 => ?_) (fun c1 => ?_)
    · replace hF := ite_f hF c1
      refine g_iload_n (pc1 := 31) C d_M_countOf_30 rfl rfl 1 rfl ?_
      refine g_iconst (pc1 := 32) (v := (2 : Int32)) C d_M_countOf_31 rfl ic_2 ?_
      refine g_icmp_ne (pc1 := 35) C 44 d_M_countOf_32 rfl (by decide) (fun c1 => ?_) (fun c1 => ?_)
      · replace hF := ite_f hF c1
        refine g_iload_n (pc1 := 45) C d_M_countOf_44 rfl rfl 1 rfl ?_
        refine g_iconst (pc1 := 46) (v := (3 : Int32)) C d_M_countOf_45 rfl ic_3 ?_
        refine g_icmp_ne (pc1 := 49) C 58 d_M_countOf_46 rfl (by decide) (fun c1 => ?_) (fun c1 => ?_)
        · replace hF := ite_f hF c1
          refine g_iload_n (pc1 := 59) C d_M_countOf_58 rfl rfl 1 rfl ?_
          refine g_iconst (pc1 := 60) (v := (4 : Int32)) C d_M_countOf_59 rfl ic_4 ?_
          refine g_icmp_ne (pc1 := 63) C 72 d_M_countOf_60 rfl (by decide) (fun c1 => ?_) (fun c1 => ?_)
          · replace hF := ite_f hF c1
            refine g_aload_n (pc1 := 73) C d_M_countOf_72 rfl rfl 0 rfl ?_
            refine get_WM_0_size (pc1 := 76) C hK (v := (μ.1 0 7)) rfl kw_192 d_M_countOf_73 rfl ?_
            exact g_iret C hr hlk d_M_countOf_76 (Option.some.inj hF) rfl
          · replace hF := ite_t hF c1
            refine g_aload_n (pc1 := 64) C d_M_countOf_63 rfl rfl 0 rfl ?_
            refine get_WM_0_field (pc1 := 67) C hK kw_172 d_M_countOf_64 rfl ?_
            refine g_iconst (pc1 := 68) (v := (4 : Int32)) C d_M_countOf_67 rfl ic_4 ?_
            have hg := gd_some hF
            replace hF := hg.2
            refine g_iald (pc1 := 69) C hK 2 (f := (μ.1 2)) rfl hg.1 d_M_countOf_68 rfl ?_
            refine g_goto C 76 d_M_countOf_69 (by decide) ?_
            exact g_iret C hr hlk d_M_countOf_76 (Option.some.inj hF) rfl
        · replace hF := ite_t hF c1
          refine g_aload_n (pc1 := 50) C d_M_countOf_49 rfl rfl 0 rfl ?_
          refine get_WM_0_field (pc1 := 53) C hK kw_172 d_M_countOf_50 rfl ?_
          refine g_iconst (pc1 := 54) (v := (3 : Int32)) C d_M_countOf_53 rfl ic_3 ?_
          have hg := gd_some hF
          replace hF := hg.2
          refine g_iald (pc1 := 55) C hK 2 (f := (μ.1 2)) rfl hg.1 d_M_countOf_54 rfl ?_
          refine g_goto C 76 d_M_countOf_55 (by decide) ?_
          exact g_iret C hr hlk d_M_countOf_76 (Option.some.inj hF) rfl
      · replace hF := ite_t hF c1
        refine g_aload_n (pc1 := 36) C d_M_countOf_35 rfl rfl 0 rfl ?_
        refine get_WM_0_field (pc1 := 39) C hK kw_172 d_M_countOf_36 rfl ?_
        refine g_iconst (pc1 := 40) (v := (2 : Int32)) C d_M_countOf_39 rfl ic_2 ?_
        have hg := gd_some hF
        replace hF := hg.2
        refine g_iald (pc1 := 41) C hK 2 (f := (μ.1 2)) rfl hg.1 d_M_countOf_40 rfl ?_
        refine g_goto C 76 d_M_countOf_41 (by decide) ?_
        exact g_iret C hr hlk d_M_countOf_76 (Option.some.inj hF) rfl
    · replace hF := ite_t hF c1
      refine g_aload_n (pc1 := 19) C d_M_countOf_18 rfl rfl 0 rfl ?_
      refine get_WM_0_field (pc1 := 22) C hK kw_172 d_M_countOf_19 rfl ?_
      refine g_iconst (pc1 := 23) (v := (1 : Int32)) C d_M_countOf_22 rfl ic_1 ?_
      have hg := gd_some hF
      replace hF := hg.2
      refine g_iald (pc1 := 24) C hK 2 (f := (μ.1 2)) rfl hg.1 d_M_countOf_23 rfl ?_
      obtain ⟨r1, hr1, hF⟩ := bnd_some hF
      refine g_callSI (pc1 := 27) (As := [.int ((μ.1 2) (1 : Int32).toNatClampNeg)]) (rest := []) C 1 (c_M_bits l ((μ.1 2) (1 : Int32).toNatClampNeg) r1 hr1) s_M_bits kw_177 rfl ⟨Nat.le_of_ble_eq_true rfl, Nat.le_of_ble_eq_true rfl⟩ ⟨rfl, rfl⟩ d_M_countOf_24 rfl rfl (Nat.le_of_ble_eq_true rfl) ?_
      refine g_goto C 76 d_M_countOf_27 (by decide) ?_
      exact g_iret C hr hlk d_M_countOf_76 (Option.some.inj hF) rfl
  · replace hF := ite_t hF c1
    refine g_aload_n (pc1 := 5) C d_M_countOf_4 rfl rfl 0 rfl ?_
    refine get_WM_0_field (pc1 := 8) C hK kw_172 d_M_countOf_5 rfl ?_
    refine g_iconst (pc1 := 9) (v := (0 : Int32)) C d_M_countOf_8 rfl ic_0 ?_
    have hg := gd_some hF
    replace hF := hg.2
    refine g_iald (pc1 := 10) C hK 2 (f := (μ.1 2)) rfl hg.1 d_M_countOf_9 rfl ?_
    refine g_goto C 76 d_M_countOf_10 (by decide) ?_
    exact g_iret C hr hlk d_M_countOf_76 (Option.some.inj hF) rfl
-- TentPegsModel.count(I)I
set_option maxHeartbeats 4000000 in
set_option maxRecDepth 100000 in
theorem c_M_count (l : Launch) (D : va_G) (cs : Nat → ClassId) (a : Nat → Nat) (μ : Mem) (x1 : Int32) (r : Int32) (μ1 : Mem) (hF : F_M_count μ x1 = some (r, μ1)) : MetI l y_M_count b_M_count 2 (some .int) { frames := 2, cells := 0, slots := 0, locals := 43 } D cs (AM a) (WM a cs μ) [.ref (a 0), .int x1] r (WM a cs μ1) := by
  refine met_of rfl (by decide +kernel) (Nat.le_of_ble_eq_true rfl) (fun p e s m below meth c C hK hr hlk => ?_)
  unfold F_M_count at hF
  show G p l e { frames := 2, cells := 0, slots := 0, locals := 43 } s m _ below meth c _ D (AM a) 2 (WM a cs μ) 0 [(0, .ref (a 0)), (1, .int x1)] []
  refine g_aload_n (pc1 := 1) C d_M_count_0 rfl rfl 0 rfl ?_
  refine g_iconst (pc1 := 2) (v := (0 : Int32)) C d_M_count_1 rfl ic_0 ?_
  refine put_WM_0_thrown (pc1 := 5) C hK kw_178 d_M_count_2 rfl ?_
  refine g_iload_n (pc1 := 6) C d_M_count_5 rfl rfl 1 rfl ?_
  refine g_i2l (pc1 := 7) C d_M_count_6 rfl ?_
  refine g_lconst (pc1 := 8) (v := (0 : Int64)) C d_M_count_7 rfl lc_0 ?_
  refine g_ldc2 (pc1 := 11) (v := (5 : Int64)) C d_M_count_8 rfl kw_184 ?_
  obtain ⟨r1, hr1, hF⟩ := bnd_some hF
  refine g_callSI (pc1 := 14) (As := [.long (x1.toInt64), .long (0 : Int64), .long (5 : Int64)]) (rest := []) C 3 (c_M_in l (x1.toInt64) (0 : Int64) (5 : Int64) r1 hr1) s_M_in kw_173 rfl ⟨Nat.le_of_ble_eq_true rfl, Nat.le_of_ble_eq_true rfl⟩ ⟨rfl, rfl⟩ d_M_count_11 rfl rfl (Nat.le_of_ble_eq_true rfl) ?_
  refine g_if_eq (pc1 := 17) C 25 d_M_count_14 rfl (by decide) (fun c1 => ?_) (fun c1 => ?_)
  · replace hF := ite_t hF c1
    refine g_aload_n (pc1 := 26) C d_M_count_25 rfl rfl 0 rfl ?_
    obtain ⟨⟨r2, m2⟩, hm2, hF⟩ := bnd_some hF
    refine g_callVI (pc1 := 29) (ws1 := WM a cs m2) (As := []) (rest := []) (b := a 0) C hK 0 (c_M_bad l D cs a (stI μ 0 0 (0 : Int32))  r2 m2 hm2) s_M_bad kw_182 0 rfl rfl rfl ⟨Nat.le_of_ble_eq_true rfl, Nat.le_of_ble_eq_true rfl⟩ ⟨rfl, rfl⟩ d_M_count_26 rfl rfl (Nat.le_of_ble_eq_true rfl) ?_
    exact g_iret C hr hlk d_M_count_29 (fst_of hF) (congrArg (WM a cs) (snd_of hF))
  · replace hF := ite_f hF c1
    refine g_aload_n (pc1 := 18) C d_M_count_17 rfl rfl 0 rfl ?_
    refine g_iload_n (pc1 := 19) C d_M_count_18 rfl rfl 1 rfl ?_
    obtain ⟨r3, hr3, hF⟩ := bnd_some hF
    refine g_callVI (pc1 := 22) (ws1 := WM a cs (stI μ 0 0 (0 : Int32))) (As := [.int x1]) (rest := []) (b := a 0) C hK 1 (c_M_countOf l D cs a (stI μ 0 0 (0 : Int32)) x1 r3 hr3) s_M_countOf kw_266 0 rfl rfl rfl ⟨Nat.le_of_ble_eq_true rfl, Nat.le_of_ble_eq_true rfl⟩ ⟨rfl, rfl⟩ d_M_count_19 rfl rfl (Nat.le_of_ble_eq_true rfl) ?_
    refine g_goto C 29 d_M_count_22 (by decide) ?_
    exact g_iret C hr hlk d_M_count_29 (fst_of hF) (congrArg (WM a cs) (snd_of hF))
-- TentPegsModel.digest()J
set_option maxHeartbeats 4000000 in
set_option maxRecDepth 100000 in
theorem p_M_digest_124 {p : Program} {l : Launch} {e : Env} {s : State} {m : MethodId} {args : Array Value} {below : List Frame} {meth : Method} {c : Code} {D : va_G} {cs : Nat → ClassId} {a : Nat → Nat} {r : Int64} {μ1 : Mem} (C : Cx p s m args c b_M_digest 4 "TentPegsModel") (hK : va_K D classes (tys cs) s) (hr : meth.sig.returnType = (some .long)) (hlk : meth.locks = false)  : ∀ (μ : Mem) (x1 : Int64) (x3 : Int32), F_M_digest_124  μ x1 x3 = some (r, μ1) → G p l e { frames := 2, cells := 0, slots := 0, locals := 43 } s m args below meth c (MQ below (Ql (AM a) D (WM a cs μ1) r) args s 0 0 (AM a)) D (AM a) 4 (WM a cs μ) 124 [(0, .ref (a 0)), (1, .long x1), (3, .int x3)] [] := by
  refine iter_ind (fun (K124 : Mem → Int64 → Int32 → Option (Int64 × Mem)) => ∀ (μ : Mem) (x1 : Int64) (x3 : Int32), K124 μ x1 x3 = some (r, μ1) → G p l e { frames := 2, cells := 0, slots := 0, locals := 43 } s m args below meth c (MQ below (Ql (AM a) D (WM a cs μ1) r) args s 0 0 (AM a)) D (AM a) 4 (WM a cs μ) 124 [(0, .ref (a 0)), (1, .long x1), (3, .int x3)] []) ?_ ?_ NF
  · intro μ x1 x3 hF
    exact none_no hF
  · intro K124 hK124 μ x1 x3 hF
    unfold S_M_digest_124 at hF
    refine g_iload_n (pc1 := 125) C d_M_digest_124 rfl rfl 2 rfl ?_
    refine g_bipush (pc1 := 127) (v := (8 : Int32)) C d_M_digest_125 rfl bp_8 ?_
    refine g_icmp_ge (pc1 := 130) C 153 d_M_digest_127 rfl (by decide) (fun c1 => ?_) (fun c1 => ?_)
    · replace hF := ite_t hF c1
      refine g_ldc2 (pc1 := 156) (v := (31 : Int64)) C d_M_digest_153 rfl kw_268 ?_
      refine g_ldc2 (pc1 := 159) (v := (31 : Int64)) C d_M_digest_156 rfl kw_268 ?_
      refine g_lload_n (pc1 := 160) C d_M_digest_159 rfl rfl 1 rfl ?_
      refine g_lmul (pc1 := 161) C d_M_digest_160 rfl ?_
      refine g_aload_n (pc1 := 162) C d_M_digest_161 rfl rfl 0 rfl ?_
      refine get_WM_0_above (pc1 := 165) C hK (v := (μ.2 17)) rfl kw_244 d_M_digest_162 rfl ?_
      refine g_ladd (pc1 := 166) C d_M_digest_165 rfl ?_
      refine g_lmul (pc1 := 167) C d_M_digest_166 rfl ?_
      refine g_aload_n (pc1 := 168) C d_M_digest_167 rfl rfl 0 rfl ?_
      refine get_WM_0_below (pc1 := 171) C hK (v := (μ.2 18)) rfl kw_245 d_M_digest_168 rfl ?_
      refine g_ladd (pc1 := 172) C d_M_digest_171 rfl ?_
      exact g_lret C hr hlk d_M_digest_172 (fst_of hF) (congrArg (WM a cs) (snd_of hF))
    · replace hF := ite_f hF c1
      refine g_ldc2 (pc1 := 133) (v := (31 : Int64)) C d_M_digest_130 rfl kw_268 ?_
      refine g_lload_n (pc1 := 134) C d_M_digest_133 rfl rfl 1 rfl ?_
      refine g_lmul (pc1 := 135) C d_M_digest_134 rfl ?_
      refine g_aload_n (pc1 := 136) C d_M_digest_135 rfl rfl 0 rfl ?_
      refine get_WM_0_field (pc1 := 139) C hK kw_172 d_M_digest_136 rfl ?_
      refine g_bipush (pc1 := 141) (v := (29 : Int32)) C d_M_digest_139 rfl bp_29 ?_
      refine g_iload_n (pc1 := 142) C d_M_digest_141 rfl rfl 2 rfl ?_
      refine g_iadd (pc1 := 143) C d_M_digest_142 rfl ?_
      have hg := gd_some hF
      replace hF := hg.2
      refine g_iald (pc1 := 144) C hK 2 (f := (μ.1 2)) rfl hg.1 d_M_digest_143 rfl ?_
      refine g_i2l (pc1 := 145) C d_M_digest_144 rfl ?_
      refine g_ladd (pc1 := 146) C d_M_digest_145 rfl ?_
      refine g_lstore_n (pc1 := 147) (L1 := [(1, .long (((31 : Int64) * x1) + (((μ.1 2) ((29 : Int32) + x3).toNatClampNeg).toInt64))), (0, .ref (a 0)), (3, .int x3)]) C d_M_digest_146 rfl rfl (by decide) rfl ?_
      refine g_iinc (pc1 := 150) (v := (x3 + (1 : Int32))) (L1 := [(3, .int (x3 + (1 : Int32))), (1, .long (((31 : Int64) * x1) + (((μ.1 2) ((29 : Int32) + x3).toNatClampNeg).toInt64))), (0, .ref (a 0))]) C d_M_digest_147 rfl 2 rfl (by rw [ic_1]) (by decide) rfl ?_
      refine g_goto C 124 d_M_digest_150 (by decide) ?_
      exact g_sub [2, 1, 0] rfl (hK124 μ (((31 : Int64) * x1) + (((μ.1 2) ((29 : Int32) + x3).toNatClampNeg).toInt64)) (x3 + (1 : Int32)) hF)
set_option maxHeartbeats 4000000 in
set_option maxRecDepth 100000 in
theorem p_M_digest_38 {p : Program} {l : Launch} {e : Env} {s : State} {m : MethodId} {args : Array Value} {below : List Frame} {meth : Method} {c : Code} {D : va_G} {cs : Nat → ClassId} {a : Nat → Nat} {r : Int64} {μ1 : Mem} (C : Cx p s m args c b_M_digest 4 "TentPegsModel") (hK : va_K D classes (tys cs) s) (hr : meth.sig.returnType = (some .long)) (hlk : meth.locks = false)  : ∀ (μ : Mem) (x1 : Int64) (x3 : Int32), F_M_digest_38  μ x1 x3 = some (r, μ1) → G p l e { frames := 2, cells := 0, slots := 0, locals := 43 } s m args below meth c (MQ below (Ql (AM a) D (WM a cs μ1) r) args s 0 0 (AM a)) D (AM a) 4 (WM a cs μ) 38 [(0, .ref (a 0)), (1, .long x1), (3, .int x3)] [] := by
  refine iter_ind (fun (K38 : Mem → Int64 → Int32 → Option (Int64 × Mem)) => ∀ (μ : Mem) (x1 : Int64) (x3 : Int32), K38 μ x1 x3 = some (r, μ1) → G p l e { frames := 2, cells := 0, slots := 0, locals := 43 } s m args below meth c (MQ below (Ql (AM a) D (WM a cs μ1) r) args s 0 0 (AM a)) D (AM a) 4 (WM a cs μ) 38 [(0, .ref (a 0)), (1, .long x1), (3, .int x3)] []) ?_ ?_ NF
  · intro μ x1 x3 hF
    exact none_no hF
  · intro K38 hK38 μ x1 x3 hF
    unfold S_M_digest_38 at hF
    refine g_iload_n (pc1 := 39) C d_M_digest_38 rfl rfl 2 rfl ?_
    refine g_aload_n (pc1 := 40) C d_M_digest_39 rfl rfl 0 rfl ?_
    refine get_WM_0_field (pc1 := 43) C hK kw_172 d_M_digest_40 rfl ?_
    refine g_iconst (pc1 := 44) (v := (0 : Int32)) C d_M_digest_43 rfl ic_0 ?_
    have hg := gd_some hF
    replace hF := hg.2
    refine g_iald (pc1 := 45) C hK 2 (f := (μ.1 2)) rfl hg.1 d_M_digest_44 rfl ?_
    refine g_icmp_ge (pc1 := 48) C 122 d_M_digest_45 rfl (by decide) (fun c1 => ?_) (fun c1 => ?_)
    · replace hF := ite_t hF c1
      refine g_iconst (pc1 := 123) (v := (0 : Int32)) C d_M_digest_122 rfl ic_0 ?_
      refine g_istore_n (pc1 := 124) (L1 := [(3, .int (0 : Int32)), (0, .ref (a 0)), (1, .long x1)]) C d_M_digest_123 rfl rfl (by decide) rfl ?_
      exact g_sub [1, 2, 0] rfl (p_M_digest_124 C hK hr hlk  μ x1 (0 : Int32) hF)
    · replace hF := ite_f hF c1
      refine g_ldc2 (pc1 := 51) (v := (31 : Int64)) C d_M_digest_48 rfl kw_268 ?_
      refine g_lload_n (pc1 := 52) C d_M_digest_51 rfl rfl 1 rfl ?_
      refine g_lmul (pc1 := 53) C d_M_digest_52 rfl ?_
      refine g_aload_n (pc1 := 54) C d_M_digest_53 rfl rfl 0 rfl ?_
      refine get_WM_0_field (pc1 := 57) C hK kw_172 d_M_digest_54 rfl ?_
      refine g_iconst (pc1 := 58) (v := (5 : Int32)) C d_M_digest_57 rfl ic_5 ?_
      refine g_iload_n (pc1 := 59) C d_M_digest_58 rfl rfl 2 rfl ?_
      refine g_iadd (pc1 := 60) C d_M_digest_59 rfl ?_
      have hg := gd_some hF
      replace hF := hg.2
      refine g_iald (pc1 := 61) C hK 2 (f := (μ.1 2)) rfl hg.1 d_M_digest_60 rfl ?_
      refine g_i2l (pc1 := 62) C d_M_digest_61 rfl ?_
      refine g_ladd (pc1 := 63) C d_M_digest_62 rfl ?_
      refine g_lstore_n (pc1 := 64) (L1 := [(1, .long (((31 : Int64) * x1) + (((μ.1 2) ((5 : Int32) + x3).toNatClampNeg).toInt64))), (0, .ref (a 0)), (3, .int x3)]) C d_M_digest_63 rfl rfl (by decide) rfl ?_
      refine g_ldc2 (pc1 := 67) (v := (31 : Int64)) C d_M_digest_64 rfl kw_268 ?_
      refine g_lload_n (pc1 := 68) C d_M_digest_67 rfl rfl 0 rfl ?_
      refine g_lmul (pc1 := 69) C d_M_digest_68 rfl ?_
      refine g_aload_n (pc1 := 70) C d_M_digest_69 rfl rfl 1 rfl ?_
      refine get_WM_0_field (pc1 := 73) C hK kw_172 d_M_digest_70 rfl ?_
      refine g_bipush (pc1 := 75) (v := (13 : Int32)) C d_M_digest_73 rfl bp_13 ?_
      refine g_iload_n (pc1 := 76) C d_M_digest_75 rfl rfl 2 rfl ?_
      refine g_iadd (pc1 := 77) C d_M_digest_76 rfl ?_
      have hg := gd_some hF
      replace hF := hg.2
      refine g_iald (pc1 := 78) C hK 2 (f := (μ.1 2)) rfl hg.1 d_M_digest_77 rfl ?_
      refine g_i2l (pc1 := 79) C d_M_digest_78 rfl ?_
      refine g_ladd (pc1 := 80) C d_M_digest_79 rfl ?_
      refine g_lstore_n (pc1 := 81) (L1 := [(1, .long (((31 : Int64) * (((31 : Int64) * x1) + (((μ.1 2) ((5 : Int32) + x3).toNatClampNeg).toInt64))) + (((μ.1 2) ((13 : Int32) + x3).toNatClampNeg).toInt64))), (0, .ref (a 0)), (3, .int x3)]) C d_M_digest_80 rfl rfl (by decide) rfl ?_
      refine g_ldc2 (pc1 := 84) (v := (31 : Int64)) C d_M_digest_81 rfl kw_268 ?_
      refine g_lload_n (pc1 := 85) C d_M_digest_84 rfl rfl 0 rfl ?_
      refine g_lmul (pc1 := 86) C d_M_digest_85 rfl ?_
      refine g_aload_n (pc1 := 87) C d_M_digest_86 rfl rfl 1 rfl ?_
      refine get_WM_0_field (pc1 := 90) C hK kw_172 d_M_digest_87 rfl ?_
      refine g_bipush (pc1 := 92) (v := (21 : Int32)) C d_M_digest_90 rfl bp_21 ?_
      refine g_iload_n (pc1 := 93) C d_M_digest_92 rfl rfl 2 rfl ?_
      refine g_iadd (pc1 := 94) C d_M_digest_93 rfl ?_
      have hg := gd_some hF
      replace hF := hg.2
      refine g_iald (pc1 := 95) C hK 2 (f := (μ.1 2)) rfl hg.1 d_M_digest_94 rfl ?_
      refine g_i2l (pc1 := 96) C d_M_digest_95 rfl ?_
      refine g_ladd (pc1 := 97) C d_M_digest_96 rfl ?_
      refine g_lstore_n (pc1 := 98) (L1 := [(1, .long (((31 : Int64) * (((31 : Int64) * (((31 : Int64) * x1) + (((μ.1 2) ((5 : Int32) + x3).toNatClampNeg).toInt64))) + (((μ.1 2) ((13 : Int32) + x3).toNatClampNeg).toInt64))) + (((μ.1 2) ((21 : Int32) + x3).toNatClampNeg).toInt64))), (0, .ref (a 0)), (3, .int x3)]) C d_M_digest_97 rfl rfl (by decide) rfl ?_
      refine g_ldc2 (pc1 := 101) (v := (31 : Int64)) C d_M_digest_98 rfl kw_268 ?_
      refine g_lload_n (pc1 := 102) C d_M_digest_101 rfl rfl 0 rfl ?_
      refine g_lmul (pc1 := 103) C d_M_digest_102 rfl ?_
      refine g_aload_n (pc1 := 104) C d_M_digest_103 rfl rfl 1 rfl ?_
      refine get_WM_0_field (pc1 := 107) C hK kw_172 d_M_digest_104 rfl ?_
      refine g_iconst (pc1 := 108) (v := (1 : Int32)) C d_M_digest_107 rfl ic_1 ?_
      have hg := gd_some hF
      replace hF := hg.2
      refine g_iald (pc1 := 109) C hK 2 (f := (μ.1 2)) rfl hg.1 d_M_digest_108 rfl ?_
      refine g_iload_n (pc1 := 110) C d_M_digest_109 rfl rfl 2 rfl ?_
      refine g_ishr (pc1 := 111) C d_M_digest_110 rfl ?_
      refine g_iconst (pc1 := 112) (v := (1 : Int32)) C d_M_digest_111 rfl ic_1 ?_
      refine g_iand (pc1 := 113) C d_M_digest_112 rfl ?_
      refine g_i2l (pc1 := 114) C d_M_digest_113 rfl ?_
      refine g_ladd (pc1 := 115) C d_M_digest_114 rfl ?_
      refine g_lstore_n (pc1 := 116) (L1 := [(1, .long (((31 : Int64) * (((31 : Int64) * (((31 : Int64) * (((31 : Int64) * x1) + (((μ.1 2) ((5 : Int32) + x3).toNatClampNeg).toInt64))) + (((μ.1 2) ((13 : Int32) + x3).toNatClampNeg).toInt64))) + (((μ.1 2) ((21 : Int32) + x3).toNatClampNeg).toInt64))) + (((((μ.1 2) (1 : Int32).toNatClampNeg) >>> (x3 &&& 31)) &&& (1 : Int32)).toInt64))), (0, .ref (a 0)), (3, .int x3)]) C d_M_digest_115 rfl rfl (by decide) rfl ?_
      refine g_iinc (pc1 := 119) (v := (x3 + (1 : Int32))) (L1 := [(3, .int (x3 + (1 : Int32))), (1, .long (((31 : Int64) * (((31 : Int64) * (((31 : Int64) * (((31 : Int64) * x1) + (((μ.1 2) ((5 : Int32) + x3).toNatClampNeg).toInt64))) + (((μ.1 2) ((13 : Int32) + x3).toNatClampNeg).toInt64))) + (((μ.1 2) ((21 : Int32) + x3).toNatClampNeg).toInt64))) + (((((μ.1 2) (1 : Int32).toNatClampNeg) >>> (x3 &&& 31)) &&& (1 : Int32)).toInt64))), (0, .ref (a 0))]) C d_M_digest_116 rfl 2 rfl (by rw [ic_1]) (by decide) rfl ?_
      refine g_goto C 38 d_M_digest_119 (by decide) ?_
      exact g_sub [2, 1, 0] rfl (hK38 μ (((31 : Int64) * (((31 : Int64) * (((31 : Int64) * (((31 : Int64) * x1) + (((μ.1 2) ((5 : Int32) + x3).toNatClampNeg).toInt64))) + (((μ.1 2) ((13 : Int32) + x3).toNatClampNeg).toInt64))) + (((μ.1 2) ((21 : Int32) + x3).toNatClampNeg).toInt64))) + (((((μ.1 2) (1 : Int32).toNatClampNeg) >>> (x3 &&& 31)) &&& (1 : Int32)).toInt64)) (x3 + (1 : Int32)) hF)
set_option maxHeartbeats 4000000 in
set_option maxRecDepth 100000 in
theorem p_M_digest_11 {p : Program} {l : Launch} {e : Env} {s : State} {m : MethodId} {args : Array Value} {below : List Frame} {meth : Method} {c : Code} {D : va_G} {cs : Nat → ClassId} {a : Nat → Nat} {r : Int64} {μ1 : Mem} (C : Cx p s m args c b_M_digest 4 "TentPegsModel") (hK : va_K D classes (tys cs) s) (hr : meth.sig.returnType = (some .long)) (hlk : meth.locks = false)  : ∀ (μ : Mem) (x1 : Int64) (x3 : Int32), F_M_digest_11  μ x1 x3 = some (r, μ1) → G p l e { frames := 2, cells := 0, slots := 0, locals := 43 } s m args below meth c (MQ below (Ql (AM a) D (WM a cs μ1) r) args s 0 0 (AM a)) D (AM a) 4 (WM a cs μ) 11 [(0, .ref (a 0)), (1, .long x1), (3, .int x3)] [] := by
  refine iter_ind (fun (K11 : Mem → Int64 → Int32 → Option (Int64 × Mem)) => ∀ (μ : Mem) (x1 : Int64) (x3 : Int32), K11 μ x1 x3 = some (r, μ1) → G p l e { frames := 2, cells := 0, slots := 0, locals := 43 } s m args below meth c (MQ below (Ql (AM a) D (WM a cs μ1) r) args s 0 0 (AM a)) D (AM a) 4 (WM a cs μ) 11 [(0, .ref (a 0)), (1, .long x1), (3, .int x3)] []) ?_ ?_ NF
  · intro μ x1 x3 hF
    exact none_no hF
  · intro K11 hK11 μ x1 x3 hF
    unfold S_M_digest_11 at hF
    refine g_iload_n (pc1 := 12) C d_M_digest_11 rfl rfl 2 rfl ?_
    refine g_bipush (pc1 := 14) (v := (6 : Int32)) C d_M_digest_12 rfl bp_6 ?_
    refine g_icmp_ge (pc1 := 17) C 36 d_M_digest_14 rfl (by decide) (fun c1 => ?_) (fun c1 => ?_)
    · replace hF := ite_t hF c1
      refine g_iconst (pc1 := 37) (v := (0 : Int32)) C d_M_digest_36 rfl ic_0 ?_
      refine g_istore_n (pc1 := 38) (L1 := [(3, .int (0 : Int32)), (0, .ref (a 0)), (1, .long x1)]) C d_M_digest_37 rfl rfl (by decide) rfl ?_
      exact g_sub [1, 2, 0] rfl (p_M_digest_38 C hK hr hlk  μ x1 (0 : Int32) hF)
    · replace hF := ite_f hF c1
      refine g_ldc2 (pc1 := 20) (v := (31 : Int64)) C d_M_digest_17 rfl kw_268 ?_
      refine g_lload_n (pc1 := 21) C d_M_digest_20 rfl rfl 1 rfl ?_
      refine g_lmul (pc1 := 22) C d_M_digest_21 rfl ?_
      refine g_aload_n (pc1 := 23) C d_M_digest_22 rfl rfl 0 rfl ?_
      refine g_iload_n (pc1 := 24) C d_M_digest_23 rfl rfl 2 rfl ?_
      obtain ⟨r1, hr1, hF⟩ := bnd_some hF
      refine g_callVI (pc1 := 27) (ws1 := WM a cs μ) (As := [.int x3]) (rest := [.long ((31 : Int64) * x1)]) (b := a 0) C hK 1 (c_M_countOf l D cs a μ x3 r1 hr1) s_M_countOf kw_266 0 rfl rfl rfl ⟨Nat.le_of_ble_eq_true rfl, Nat.le_of_ble_eq_true rfl⟩ ⟨rfl, rfl⟩ d_M_digest_24 rfl rfl (Nat.le_of_ble_eq_true rfl) ?_
      refine g_i2l (pc1 := 28) C d_M_digest_27 rfl ?_
      refine g_ladd (pc1 := 29) C d_M_digest_28 rfl ?_
      refine g_lstore_n (pc1 := 30) (L1 := [(1, .long (((31 : Int64) * x1) + (r1.toInt64))), (0, .ref (a 0)), (3, .int x3)]) C d_M_digest_29 rfl rfl (by decide) rfl ?_
      refine g_iinc (pc1 := 33) (v := (x3 + (1 : Int32))) (L1 := [(3, .int (x3 + (1 : Int32))), (1, .long (((31 : Int64) * x1) + (r1.toInt64))), (0, .ref (a 0))]) C d_M_digest_30 rfl 2 rfl (by rw [ic_1]) (by decide) rfl ?_
      refine g_goto C 11 d_M_digest_33 (by decide) ?_
      exact g_sub [2, 1, 0] rfl (hK11 μ (((31 : Int64) * x1) + (r1.toInt64)) (x3 + (1 : Int32)) hF)
set_option maxHeartbeats 4000000 in
set_option maxRecDepth 100000 in
theorem c_M_digest (l : Launch) (D : va_G) (cs : Nat → ClassId) (a : Nat → Nat) (μ : Mem)  (r : Int64) (μ1 : Mem) (hF : F_M_digest μ = some (r, μ1)) : MetL l y_M_digest b_M_digest 4 (some .long) { frames := 2, cells := 0, slots := 0, locals := 43 } D cs (AM a) (WM a cs μ) [.ref (a 0)] r (WM a cs μ1) := by
  refine met_of rfl (by decide +kernel) (Nat.le_of_ble_eq_true rfl) (fun p e s m below meth c C hK hr hlk => ?_)
  unfold F_M_digest at hF
  show G p l e { frames := 2, cells := 0, slots := 0, locals := 43 } s m _ below meth c _ D (AM a) 4 (WM a cs μ) 0 [(0, .ref (a 0))] []
  refine g_aload_n (pc1 := 1) C d_M_digest_0 rfl rfl 0 rfl ?_
  refine g_iconst (pc1 := 2) (v := (0 : Int32)) C d_M_digest_1 rfl ic_0 ?_
  refine put_WM_0_thrown (pc1 := 5) C hK kw_178 d_M_digest_2 rfl ?_
  refine g_ldc2 (pc1 := 8) (v := (883 : Int64)) C d_M_digest_5 rfl kw_267 ?_
  refine g_lstore_n (pc1 := 9) (L1 := [(1, .long (883 : Int64)), (0, .ref (a 0))]) C d_M_digest_8 rfl rfl (by decide) rfl ?_
  refine g_iconst (pc1 := 10) (v := (0 : Int32)) C d_M_digest_9 rfl ic_0 ?_
  refine g_istore_n (pc1 := 11) (L1 := [(3, .int (0 : Int32)), (1, .long (883 : Int64)), (0, .ref (a 0))]) C d_M_digest_10 rfl rfl (by decide) rfl ?_
  exact g_sub [2, 1, 0] rfl (p_M_digest_11 C hK hr hlk  (stI μ 0 0 (0 : Int32)) (883 : Int64) (0 : Int32) hF)
-- TentPegs$Reader.begin(I)V
set_option maxHeartbeats 4000000 in
set_option maxRecDepth 100000 in
theorem c_R_begin (l : Launch) (D : va_G) (cs : Nat → ClassId) (a : Nat → Nat) (μ : Mem) (x1 : Int32) (μ1 : Mem) (hF : F_R_begin μ x1 = some μ1) : MetV l y_R_begin b_R_begin 2 none { frames := 1, cells := 0, slots := 0, locals := 21 } D cs (AC a) (WC a cs μ) [.ref (a 14), .int x1] (WC a cs μ1) := by
  refine met_of rfl (by decide +kernel) (Nat.le_of_ble_eq_true rfl) (fun p e s m below meth c C hK hr hlk => ?_)
  unfold F_R_begin at hF
  show G p l e { frames := 1, cells := 0, slots := 0, locals := 21 } s m _ below meth c _ D (AC a) 2 (WC a cs μ) 0 [(0, .ref (a 14)), (1, .int x1)] []
  refine g_aload_n (pc1 := 1) C d_R_begin_0 rfl rfl 0 rfl ?_
  refine g_iload_n (pc1 := 2) C d_R_begin_1 rfl rfl 1 rfl ?_
  refine g_aload_n (pc1 := 3) C d_R_begin_2 rfl rfl 0 rfl ?_
  refine get_WC_14_text (pc1 := 6) C hK kw_269 d_R_begin_3 rfl ?_
  refine g_alen (pc1 := 7) C hK 13 1 (v := (150 : Int32)) rfl rfl on_150 d_R_begin_6 rfl ?_
  refine g_mmin (pc1 := 10) (rest := [.ref (a 14)]) C kw_270 (Nat.le_of_ble_eq_true rfl) (Nat.le_of_ble_eq_true rfl) d_R_begin_7 rfl ?_
  refine put_WC_14_length (pc1 := 13) C hK kw_271 d_R_begin_10 rfl ?_
  refine g_aload_n (pc1 := 14) C d_R_begin_13 rfl rfl 0 rfl ?_
  refine g_iconst (pc1 := 15) (v := (0 : Int32)) C d_R_begin_14 rfl ic_0 ?_
  refine put_WC_14_at (pc1 := 18) C hK kw_272 d_R_begin_15 rfl ?_
  refine g_aload_n (pc1 := 19) C d_R_begin_18 rfl rfl 0 rfl ?_
  refine g_iconst (pc1 := 20) (v := (0 : Int32)) C d_R_begin_19 rfl ic_0 ?_
  refine put_WC_14_items (pc1 := 23) C hK kw_273 d_R_begin_20 rfl ?_
  refine g_aload_n (pc1 := 24) C d_R_begin_23 rfl rfl 0 rfl ?_
  refine g_iconst (pc1 := 25) (v := (-1 : Int32)) C d_R_begin_24 rfl ic_m1 ?_
  refine put_WC_14_fault (pc1 := 28) C hK kw_274 d_R_begin_25 rfl ?_
  refine g_aload_n (pc1 := 29) C d_R_begin_28 rfl rfl 0 rfl ?_
  refine g_iconst (pc1 := 30) (v := (-1 : Int32)) C d_R_begin_29 rfl ic_m1 ?_
  refine put_WC_14_refused (pc1 := 33) C hK kw_275 d_R_begin_30 rfl ?_
  exact g_vret C hr hlk d_R_begin_33 (congrArg (WC a cs) (Option.some.inj hF))
-- TentPegs$Reader.numbersOf(I)I
set_option maxHeartbeats 4000000 in
set_option maxRecDepth 100000 in
theorem c_R_numbersOf (l : Launch) (x0 : Int32) (r : Int32) (hF : F_R_numbersOf x0 = some r) : SetI l y_R_numbersOf b_R_numbersOf 1 (some .int) { frames := 0, cells := 0, slots := 0, locals := 0 } [.int x0] r := by
  refine met_ofS rfl (by decide +kernel) (Nat.le_of_ble_eq_true rfl) (fun p e s m below meth c C hr hlk => ?_)
  unfold F_R_numbersOf at hF
  show G p l e { frames := 0, cells := 0, slots := 0, locals := 0 } s m _ below meth c _ (fun _ => 0, fun _ _ => 0) (fun _ => False) 1 [] 0 [(0, .int x0)] []
  refine g_iload_n (pc1 := 1) C d_R_numbersOf_0 rfl rfl 0 rfl ?_
  by_cases h0 : x0 = (5 : Int32)
  · replace hF := ite_t hF h0
    refine g_look C 28 d_R_numbersOf_1 rfl (by rw [h0, ti_5] <;> rfl) (by decide) ?_
    refine g_iconst (pc1 := 29) (v := (4 : Int32)) C d_R_numbersOf_28 rfl ic_4 ?_
    exact g_iret C hr hlk d_R_numbersOf_29 (Option.some.inj hF) rfl
  replace hF := ite_f hF h0
  by_cases h1 : x0 = (8 : Int32)
  · replace hF := ite_t hF h1
    refine g_look C 30 d_R_numbersOf_1 rfl (by rw [h1, ti_8] <;> rfl) (by decide) ?_
    refine g_iconst (pc1 := 31) (v := (2 : Int32)) C d_R_numbersOf_30 rfl ic_2 ?_
    exact g_iret C hr hlk d_R_numbersOf_31 (Option.some.inj hF) rfl
  replace hF := ite_f hF h1
  refine g_look (off := 31) C 32 d_R_numbersOf_1 rfl ((lv_osw h0 ti_5).trans ((lv_osw h1 ti_8).trans (rfl))) (by decide) ?_
  refine g_iconst (pc1 := 33) (v := (1 : Int32)) C d_R_numbersOf_32 rfl ic_1 ?_
  exact g_iret C hr hlk d_R_numbersOf_33 (Option.some.inj hF) rfl
-- TentPegs$Reader.tellTent(I)Z
set_option maxHeartbeats 4000000 in
set_option maxRecDepth 100000 in
theorem c_R_tellTent (l : Launch) (D : va_G) (cs : Nat → ClassId) (a : Nat → Nat) (μ : Mem) (x1 : Int32) (r : Int32) (μ1 : Mem) (hF : F_R_tellTent μ x1 = some (r, μ1)) : MetI l y_R_tellTent b_R_tellTent 2 (some .boolean) { frames := 2, cells := 0, slots := 0, locals := 46 } D cs (AC a) (WC a cs μ) [.ref (a 14), .int x1] r (WC a cs μ1) := by
  refine met_of rfl (by decide +kernel) (Nat.le_of_ble_eq_true rfl) (fun p e s m below meth c C hK hr hlk => ?_)
  unfold F_R_tellTent at hF
  show G p l e { frames := 2, cells := 0, slots := 0, locals := 46 } s m _ below meth c _ D (AC a) 2 (WC a cs μ) 0 [(0, .ref (a 14)), (1, .int x1)] []
  refine g_iload_n (pc1 := 1) C d_R_tellTent_0 rfl rfl 1 rfl ?_
  obtain ⟨r1, hr1, hF⟩ := bnd_some hF
  refine g_callSI (pc1 := 4) (As := [.int x1]) (rest := []) C 1 (c_F_mayPitch l x1 r1 hr1) s_F_mayPitch kw_276 rfl ⟨Nat.le_of_ble_eq_true rfl, Nat.le_of_ble_eq_true rfl⟩ ⟨rfl, rfl⟩ d_R_tellTent_1 rfl rfl (Nat.le_of_ble_eq_true rfl) ?_
  refine g_if_ne (pc1 := 7) C 9 d_R_tellTent_4 rfl (by decide) (fun c1 => ?_) (fun c1 => ?_)
  · replace hF := ite_f hF c1
    refine g_aload_n (pc1 := 10) C d_R_tellTent_9 rfl rfl 0 rfl ?_
    refine get_WC_14_draft (pc1 := 13) C hK kw_277 d_R_tellTent_10 rfl ?_
    refine g_iload_n (pc1 := 14) C d_R_tellTent_13 rfl rfl 1 rfl ?_
    obtain ⟨m2, hm2, hF⟩ := bnd_some hF
    refine g_callFV (pc1 := 17) (ws1 := WC a cs (put6 16 0 μ m2)) (As := [.int x1]) (rest := []) (b := a 16) C hK 1 (fr_16 a cs μ m2) (c_F_pitch l D cs (off 16 a) (sub 16 μ) x1 m2 hm2) s_F_pitch kw_278 16 rfl rfl rfl ⟨Nat.le_of_ble_eq_true rfl, Nat.le_of_ble_eq_true rfl⟩ ⟨rfl, rfl⟩ d_R_tellTent_14 rfl rfl (Nat.le_of_ble_eq_true rfl) ?_
    refine g_iconst (pc1 := 18) (v := (1 : Int32)) C d_R_tellTent_17 rfl ic_1 ?_
    exact g_zret C hr hlk rfl d_R_tellTent_18 (fst_of hF) (congrArg (WC a cs) (snd_of hF))
  · replace hF := ite_t hF c1
    refine g_iconst (pc1 := 8) (v := (0 : Int32)) C d_R_tellTent_7 rfl ic_0 ?_
    exact g_zret C hr hlk rfl d_R_tellTent_8 (fst_of hF) (congrArg (WC a cs) (snd_of hF))
-- TentPegs$Reader.tellPeg(IIII)Z
set_option maxHeartbeats 4000000 in
set_option maxRecDepth 100000 in
theorem c_R_tellPeg (l : Launch) (D : va_G) (cs : Nat → ClassId) (a : Nat → Nat) (μ : Mem) (x1 : Int32) (x2 : Int32) (x3 : Int32) (x4 : Int32) (r : Int32) (μ1 : Mem) (hF : F_R_tellPeg μ x1 x2 x3 x4 = some (r, μ1)) : MetI l y_R_tellPeg b_R_tellPeg 5 (some .boolean) { frames := 3, cells := 0, slots := 0, locals := 67 } D cs (AC a) (WC a cs μ) [.ref (a 14), .int x1, .int x2, .int x3, .int x4] r (WC a cs μ1) := by
  refine met_of rfl (by decide +kernel) (Nat.le_of_ble_eq_true rfl) (fun p e s m below meth c C hK hr hlk => ?_)
  unfold F_R_tellPeg at hF
  show G p l e { frames := 3, cells := 0, slots := 0, locals := 67 } s m _ below meth c _ D (AC a) 5 (WC a cs μ) 0 [(0, .ref (a 14)), (1, .int x1), (2, .int x2), (3, .int x3), (4, .int x4)] []
  refine g_aload_n (pc1 := 1) C d_R_tellPeg_0 rfl rfl 0 rfl ?_
  refine get_WC_14_draft (pc1 := 4) C hK kw_277 d_R_tellPeg_1 rfl ?_
  refine g_iload_n (pc1 := 5) C d_R_tellPeg_4 rfl rfl 1 rfl ?_
  refine g_iload_n (pc1 := 6) C d_R_tellPeg_5 rfl rfl 2 rfl ?_
  refine g_iload_n (pc1 := 7) C d_R_tellPeg_6 rfl rfl 3 rfl ?_
  refine g_iload (pc1 := 9) C d_R_tellPeg_7 rfl 4 rfl ?_
  obtain ⟨r1, hr1, hF⟩ := bnd_some hF
  refine g_callFI (pc1 := 12) (ws1 := WC a cs μ) (As := [.int x1, .int x2, .int x3, .int x4]) (rest := []) (b := a 16) C hK 4 (frR_16 a cs μ) (c_F_mayDrive l D cs (off 16 a) (sub 16 μ) x1 x2 x3 x4 r1 hr1) s_F_mayDrive kw_279 16 rfl rfl rfl ⟨Nat.le_of_ble_eq_true rfl, Nat.le_of_ble_eq_true rfl⟩ ⟨rfl, rfl⟩ d_R_tellPeg_9 rfl rfl (Nat.le_of_ble_eq_true rfl) ?_
  refine g_if_ne (pc1 := 15) C 17 d_R_tellPeg_12 rfl (by decide) (fun c1 => ?_) (fun c1 => ?_)
  · replace hF := ite_f hF c1
    refine g_aload_n (pc1 := 18) C d_R_tellPeg_17 rfl rfl 0 rfl ?_
    refine get_WC_14_draft (pc1 := 21) C hK kw_277 d_R_tellPeg_18 rfl ?_
    refine g_iload_n (pc1 := 22) C d_R_tellPeg_21 rfl rfl 1 rfl ?_
    refine g_iload_n (pc1 := 23) C d_R_tellPeg_22 rfl rfl 2 rfl ?_
    refine g_iload_n (pc1 := 24) C d_R_tellPeg_23 rfl rfl 3 rfl ?_
    refine g_iload (pc1 := 26) C d_R_tellPeg_24 rfl 4 rfl ?_
    obtain ⟨m2, hm2, hF⟩ := bnd_some hF
    refine g_callFV (pc1 := 29) (ws1 := WC a cs (put6 16 0 μ m2)) (As := [.int x1, .int x2, .int x3, .int x4]) (rest := []) (b := a 16) C hK 4 (fr_16 a cs μ m2) (c_F_drive l D cs (off 16 a) (sub 16 μ) x1 x2 x3 x4 m2 hm2) s_F_drive kw_280 16 rfl rfl rfl ⟨Nat.le_of_ble_eq_true rfl, Nat.le_of_ble_eq_true rfl⟩ ⟨rfl, rfl⟩ d_R_tellPeg_26 rfl rfl (Nat.le_of_ble_eq_true rfl) ?_
    refine g_iconst (pc1 := 30) (v := (1 : Int32)) C d_R_tellPeg_29 rfl ic_1 ?_
    exact g_zret C hr hlk rfl d_R_tellPeg_30 (fst_of hF) (congrArg (WC a cs) (snd_of hF))
  · replace hF := ite_t hF c1
    refine g_iconst (pc1 := 16) (v := (0 : Int32)) C d_R_tellPeg_15 rfl ic_0 ?_
    exact g_zret C hr hlk rfl d_R_tellPeg_16 (fst_of hF) (congrArg (WC a cs) (snd_of hF))
-- TentPegs$Reader.tellWet(I)Z
set_option maxHeartbeats 4000000 in
set_option maxRecDepth 100000 in
theorem c_R_tellWet (l : Launch) (D : va_G) (cs : Nat → ClassId) (a : Nat → Nat) (μ : Mem) (x1 : Int32) (r : Int32) (μ1 : Mem) (hF : F_R_tellWet μ x1 = some (r, μ1)) : MetI l y_R_tellWet b_R_tellWet 2 (some .boolean) { frames := 2, cells := 0, slots := 0, locals := 42 } D cs (AC a) (WC a cs μ) [.ref (a 14), .int x1] r (WC a cs μ1) := by
  refine met_of rfl (by decide +kernel) (Nat.le_of_ble_eq_true rfl) (fun p e s m below meth c C hK hr hlk => ?_)
  unfold F_R_tellWet at hF
  show G p l e { frames := 2, cells := 0, slots := 0, locals := 42 } s m _ below meth c _ D (AC a) 2 (WC a cs μ) 0 [(0, .ref (a 14)), (1, .int x1)] []
  refine g_iload_n (pc1 := 1) C d_R_tellWet_0 rfl rfl 1 rfl ?_
  obtain ⟨r1, hr1, hF⟩ := bnd_some hF
  refine g_callSI (pc1 := 4) (As := [.int x1]) (rest := []) C 1 (c_F_mayWet l x1 r1 hr1) s_F_mayWet kw_281 rfl ⟨Nat.le_of_ble_eq_true rfl, Nat.le_of_ble_eq_true rfl⟩ ⟨rfl, rfl⟩ d_R_tellWet_1 rfl rfl (Nat.le_of_ble_eq_true rfl) ?_
  refine g_if_ne (pc1 := 7) C 9 d_R_tellWet_4 rfl (by decide) (fun c1 => ?_) (fun c1 => ?_)
  · replace hF := ite_f hF c1
    refine g_aload_n (pc1 := 10) C d_R_tellWet_9 rfl rfl 0 rfl ?_
    refine get_WC_14_draft (pc1 := 13) C hK kw_277 d_R_tellWet_10 rfl ?_
    refine g_iload_n (pc1 := 14) C d_R_tellWet_13 rfl rfl 1 rfl ?_
    refine put_WC_16_wetness (pc1 := 17) C hK kw_282 d_R_tellWet_14 rfl ?_
    refine g_iconst (pc1 := 18) (v := (1 : Int32)) C d_R_tellWet_17 rfl ic_1 ?_
    exact g_zret C hr hlk rfl d_R_tellWet_18 (fst_of hF) (congrArg (WC a cs) (snd_of hF))
  · replace hF := ite_t hF c1
    refine g_iconst (pc1 := 8) (v := (0 : Int32)) C d_R_tellWet_7 rfl ic_0 ?_
    exact g_zret C hr hlk rfl d_R_tellWet_8 (fst_of hF) (congrArg (WC a cs) (snd_of hF))
-- TentPegs$Reader.tellWall(I)Z
set_option maxHeartbeats 4000000 in
set_option maxRecDepth 100000 in
theorem c_R_tellWall (l : Launch) (D : va_G) (cs : Nat → ClassId) (a : Nat → Nat) (μ : Mem) (x1 : Int32) (r : Int32) (μ1 : Mem) (hF : F_R_tellWall μ x1 = some (r, μ1)) : MetI l y_R_tellWall b_R_tellWall 2 (some .boolean) { frames := 2, cells := 0, slots := 0, locals := 44 } D cs (AC a) (WC a cs μ) [.ref (a 14), .int x1] r (WC a cs μ1) := by
  refine met_of rfl (by decide +kernel) (Nat.le_of_ble_eq_true rfl) (fun p e s m below meth c C hK hr hlk => ?_)
  unfold F_R_tellWall at hF
  show G p l e { frames := 2, cells := 0, slots := 0, locals := 44 } s m _ below meth c _ D (AC a) 2 (WC a cs μ) 0 [(0, .ref (a 14)), (1, .int x1)] []
  refine g_iload_n (pc1 := 1) C d_R_tellWall_0 rfl rfl 1 rfl ?_
  obtain ⟨r1, hr1, hF⟩ := bnd_some hF
  refine g_callNI (pc1 := 4) (As := [.int x1]) (rest := []) C 1 (c_T_isWay l x1 r1 hr1) s_T_isWay 5 rfl rfl ⟨Nat.le_of_ble_eq_true rfl, Nat.le_of_ble_eq_true rfl⟩ ⟨rfl, rfl⟩ d_R_tellWall_1 rfl rfl (Nat.le_of_ble_eq_true rfl) ?_
  refine g_if_eq (pc1 := 7) C 18 d_R_tellWall_4 rfl (by decide) (fun c1 => ?_) (fun c1 => ?_)
  · replace hF := ite_t hF c1
    refine g_iconst (pc1 := 19) (v := (0 : Int32)) C d_R_tellWall_18 rfl ic_0 ?_
    exact g_zret C hr hlk rfl d_R_tellWall_19 (fst_of hF) (congrArg (WC a cs) (snd_of hF))
  · replace hF := ite_f hF c1
    refine g_aload_n (pc1 := 8) C d_R_tellWall_7 rfl rfl 0 rfl ?_
    refine get_WC_14_draft (pc1 := 11) C hK kw_277 d_R_tellWall_8 rfl ?_
    refine g_iload_n (pc1 := 12) C d_R_tellWall_11 rfl rfl 1 rfl ?_
    obtain ⟨r2, hr2, hF⟩ := bnd_some hF
    refine g_callFI (pc1 := 15) (ws1 := WC a cs μ) (As := [.int x1]) (rest := []) (b := a 16) C hK 1 (frR_16 a cs μ) (c_F_hasWall l D cs (off 16 a) (sub 16 μ) x1 r2 hr2) s_F_hasWall kw_283 16 rfl rfl rfl ⟨Nat.le_of_ble_eq_true rfl, Nat.le_of_ble_eq_true rfl⟩ ⟨rfl, rfl⟩ d_R_tellWall_12 rfl rfl (Nat.le_of_ble_eq_true rfl) ?_
    refine g_if_eq (pc1 := 18) C 20 d_R_tellWall_15 rfl (by decide) (fun c1 => ?_) (fun c1 => ?_)
    · replace hF := ite_t hF c1
      refine g_aload_n (pc1 := 21) C d_R_tellWall_20 rfl rfl 0 rfl ?_
      refine get_WC_14_draft (pc1 := 24) C hK kw_277 d_R_tellWall_21 rfl ?_
      refine g_iload_n (pc1 := 25) C d_R_tellWall_24 rfl rfl 1 rfl ?_
      refine g_iconst (pc1 := 26) (v := (1 : Int32)) C d_R_tellWall_25 rfl ic_1 ?_
      obtain ⟨m3, hm3, hF⟩ := bnd_some hF
      refine g_callFV (pc1 := 29) (ws1 := WC a cs (put6 16 0 μ m3)) (As := [.int x1, .int (1 : Int32)]) (rest := []) (b := a 16) C hK 2 (fr_16 a cs μ m3) (c_F_putWall l D cs (off 16 a) (sub 16 μ) x1 (1 : Int32) m3 hm3) s_F_putWall kw_284 16 rfl rfl rfl ⟨Nat.le_of_ble_eq_true rfl, Nat.le_of_ble_eq_true rfl⟩ ⟨rfl, rfl⟩ d_R_tellWall_26 rfl rfl (Nat.le_of_ble_eq_true rfl) ?_
      refine g_iconst (pc1 := 30) (v := (1 : Int32)) C d_R_tellWall_29 rfl ic_1 ?_
      exact g_zret C hr hlk rfl d_R_tellWall_30 (fst_of hF) (congrArg (WC a cs) (snd_of hF))
    · replace hF := ite_f hF c1
      refine g_iconst (pc1 := 19) (v := (0 : Int32)) C d_R_tellWall_18 rfl ic_0 ?_
      exact g_zret C hr hlk rfl d_R_tellWall_19 (fst_of hF) (congrArg (WC a cs) (snd_of hF))
-- TentPegs$Reader.tellOdds(II)Z
set_option maxHeartbeats 4000000 in
set_option maxRecDepth 100000 in
theorem c_R_tellOdds (l : Launch) (D : va_G) (cs : Nat → ClassId) (a : Nat → Nat) (μ : Mem) (x1 : Int32) (x2 : Int32) (r : Int32) (μ1 : Mem) (hF : F_R_tellOdds μ x1 x2 = some (r, μ1)) : MetI l y_R_tellOdds b_R_tellOdds 3 (some .boolean) { frames := 3, cells := 0, slots := 0, locals := 63 } D cs (AC a) (WC a cs μ) [.ref (a 14), .int x1, .int x2] r (WC a cs μ1) := by
  refine met_of rfl (by decide +kernel) (Nat.le_of_ble_eq_true rfl) (fun p e s m below meth c C hK hr hlk => ?_)
  unfold F_R_tellOdds at hF
  show G p l e { frames := 3, cells := 0, slots := 0, locals := 63 } s m _ below meth c _ D (AC a) 3 (WC a cs μ) 0 [(0, .ref (a 14)), (1, .int x1), (2, .int x2)] []
  refine g_iload_n (pc1 := 1) C d_R_tellOdds_0 rfl rfl 1 rfl ?_
  refine g_iload_n (pc1 := 2) C d_R_tellOdds_1 rfl rfl 2 rfl ?_
  obtain ⟨r1, hr1, hF⟩ := bnd_some hF
  refine g_callSI (pc1 := 5) (As := [.int x1, .int x2]) (rest := []) C 2 (c_F_mayBet l x1 x2 r1 hr1) s_F_mayBet kw_285 rfl ⟨Nat.le_of_ble_eq_true rfl, Nat.le_of_ble_eq_true rfl⟩ ⟨rfl, rfl⟩ d_R_tellOdds_2 rfl rfl (Nat.le_of_ble_eq_true rfl) ?_
  refine g_if_ne (pc1 := 8) C 10 d_R_tellOdds_5 rfl (by decide) (fun c1 => ?_) (fun c1 => ?_)
  · replace hF := ite_f hF c1
    refine g_aload_n (pc1 := 11) C d_R_tellOdds_10 rfl rfl 0 rfl ?_
    refine get_WC_14_draft (pc1 := 14) C hK kw_277 d_R_tellOdds_11 rfl ?_
    refine get_WC_16_chances (pc1 := 17) C hK kw_286 d_R_tellOdds_14 rfl ?_
    refine g_iload_n (pc1 := 18) C d_R_tellOdds_17 rfl rfl 1 rfl ?_
    refine g_iload_n (pc1 := 19) C d_R_tellOdds_18 rfl rfl 2 rfl ?_
    have hg := gd_some hF
    replace hF := hg.2
    refine g_iast (pc1 := 20) (ws1 := WC a cs (stI μ 20 x1.toNatClampNeg x2)) C hK 20 (f := (μ.1 20)) rfl hg.1 (set_WC_20 _ _ _ _ _) d_R_tellOdds_19 rfl ?_
    refine g_iconst (pc1 := 21) (v := (1 : Int32)) C d_R_tellOdds_20 rfl ic_1 ?_
    exact g_zret C hr hlk rfl d_R_tellOdds_21 (fst_of hF) (congrArg (WC a cs) (snd_of hF))
  · replace hF := ite_t hF c1
    refine g_iconst (pc1 := 9) (v := (0 : Int32)) C d_R_tellOdds_8 rfl ic_0 ?_
    exact g_zret C hr hlk rfl d_R_tellOdds_9 (fst_of hF) (congrArg (WC a cs) (snd_of hF))
-- TentPegs$Reader.tellGone(I)Z
set_option maxHeartbeats 4000000 in
set_option maxRecDepth 100000 in
theorem c_R_tellGone (l : Launch) (D : va_G) (cs : Nat → ClassId) (a : Nat → Nat) (μ : Mem) (x1 : Int32) (r : Int32) (μ1 : Mem) (hF : F_R_tellGone μ x1 = some (r, μ1)) : MetI l y_R_tellGone b_R_tellGone 2 (some .boolean) { frames := 2, cells := 0, slots := 0, locals := 43 } D cs (AC a) (WC a cs μ) [.ref (a 14), .int x1] r (WC a cs μ1) := by
  refine met_of rfl (by decide +kernel) (Nat.le_of_ble_eq_true rfl) (fun p e s m below meth c C hK hr hlk => ?_)
  unfold F_R_tellGone at hF
  show G p l e { frames := 2, cells := 0, slots := 0, locals := 43 } s m _ below meth c _ D (AC a) 2 (WC a cs μ) 0 [(0, .ref (a 14)), (1, .int x1)] []
  refine g_aload_n (pc1 := 1) C d_R_tellGone_0 rfl rfl 0 rfl ?_
  refine get_WC_14_draft (pc1 := 4) C hK kw_277 d_R_tellGone_1 rfl ?_
  refine g_iload_n (pc1 := 5) C d_R_tellGone_4 rfl rfl 1 rfl ?_
  obtain ⟨r1, hr1, hF⟩ := bnd_some hF
  refine g_callFI (pc1 := 8) (ws1 := WC a cs μ) (As := [.int x1]) (rest := []) (b := a 16) C hK 1 (frR_16 a cs μ) (c_F_hasPeg l D cs (off 16 a) (sub 16 μ) x1 r1 hr1) s_F_hasPeg kw_287 16 rfl rfl rfl ⟨Nat.le_of_ble_eq_true rfl, Nat.le_of_ble_eq_true rfl⟩ ⟨rfl, rfl⟩ d_R_tellGone_5 rfl rfl (Nat.le_of_ble_eq_true rfl) ?_
  refine g_if_eq (pc1 := 11) C 25 d_R_tellGone_8 rfl (by decide) (fun c1 => ?_) (fun c1 => ?_)
  · replace hF := ite_t hF c1
    refine g_iconst (pc1 := 26) (v := (0 : Int32)) C d_R_tellGone_25 rfl ic_0 ?_
    exact g_zret C hr hlk rfl d_R_tellGone_26 (fst_of hF) (congrArg (WC a cs) (snd_of hF))
  · replace hF := ite_f hF c1
    refine g_aload_n (pc1 := 12) C d_R_tellGone_11 rfl rfl 0 rfl ?_
    refine get_WC_14_draft (pc1 := 15) C hK kw_277 d_R_tellGone_12 rfl ?_
    refine get_WC_16_standing (pc1 := 18) C hK (v := (μ.1 16 3)) rfl kw_288 d_R_tellGone_15 rfl ?_
    refine g_iload_n (pc1 := 19) C d_R_tellGone_18 rfl rfl 1 rfl ?_
    obtain ⟨r2, hr2, hF⟩ := bnd_some hF
    refine g_callNI (pc1 := 22) (As := [.int (μ.1 16 3), .int x1]) (rest := []) C 2 (c_T_has l (μ.1 16 3) x1 r2 hr2) s_T_has 6 rfl rfl ⟨Nat.le_of_ble_eq_true rfl, Nat.le_of_ble_eq_true rfl⟩ ⟨rfl, rfl⟩ d_R_tellGone_19 rfl rfl (Nat.le_of_ble_eq_true rfl) ?_
    refine g_if_ne (pc1 := 25) C 27 d_R_tellGone_22 rfl (by decide) (fun c1 => ?_) (fun c1 => ?_)
    · replace hF := ite_f hF c1
      refine g_aload_n (pc1 := 28) C d_R_tellGone_27 rfl rfl 0 rfl ?_
      refine get_WC_14_draft (pc1 := 31) C hK kw_277 d_R_tellGone_28 rfl ?_
      refine g_aload_n (pc1 := 32) C d_R_tellGone_31 rfl rfl 0 rfl ?_
      refine get_WC_14_draft (pc1 := 35) C hK kw_277 d_R_tellGone_32 rfl ?_
      refine get_WC_16_standing (pc1 := 38) C hK (v := (μ.1 16 3)) rfl kw_288 d_R_tellGone_35 rfl ?_
      refine g_iload_n (pc1 := 39) C d_R_tellGone_38 rfl rfl 1 rfl ?_
      refine g_iconst (pc1 := 40) (v := (0 : Int32)) C d_R_tellGone_39 rfl ic_0 ?_
      obtain ⟨r3, hr3, hF⟩ := bnd_some hF
      refine g_callNI (pc1 := 43) (As := [.int (μ.1 16 3), .int x1, .int (0 : Int32)]) (rest := [.ref (a 16)]) C 3 (c_T_with l (μ.1 16 3) x1 (0 : Int32) r3 hr3) s_T_with 7 rfl rfl ⟨Nat.le_of_ble_eq_true rfl, Nat.le_of_ble_eq_true rfl⟩ ⟨rfl, rfl⟩ d_R_tellGone_40 rfl rfl (Nat.le_of_ble_eq_true rfl) ?_
      refine put_WC_16_standing (pc1 := 46) C hK kw_288 d_R_tellGone_43 rfl ?_
      refine g_iconst (pc1 := 47) (v := (1 : Int32)) C d_R_tellGone_46 rfl ic_1 ?_
      exact g_zret C hr hlk rfl d_R_tellGone_47 (fst_of hF) (congrArg (WC a cs) (snd_of hF))
    · replace hF := ite_t hF c1
      refine g_iconst (pc1 := 26) (v := (0 : Int32)) C d_R_tellGone_25 rfl ic_0 ?_
      exact g_zret C hr hlk rfl d_R_tellGone_26 (fst_of hF) (congrArg (WC a cs) (snd_of hF))
-- TentPegs$Reader.tell(I)Z
set_option maxHeartbeats 4000000 in
set_option maxRecDepth 100000 in
theorem c_R_tell (l : Launch) (D : va_G) (cs : Nat → ClassId) (a : Nat → Nat) (μ : Mem) (x1 : Int32) (r : Int32) (μ1 : Mem) (hF : F_R_tell μ x1 = some (r, μ1)) : MetI l y_R_tell b_R_tell 3 (some .boolean) { frames := 4, cells := 0, slots := 0, locals := 91 } D cs (AC a) (WC a cs μ) [.ref (a 14), .int x1] r (WC a cs μ1) := by
  refine met_of rfl (by decide +kernel) (Nat.le_of_ble_eq_true rfl) (fun p e s m below meth c C hK hr hlk => ?_)
  unfold F_R_tell at hF
  show G p l e { frames := 4, cells := 0, slots := 0, locals := 91 } s m _ below meth c _ D (AC a) 3 (WC a cs μ) 0 [(0, .ref (a 14)), (1, .int x1)] []
  refine g_aload_n (pc1 := 1) C d_R_tell_0 rfl rfl 0 rfl ?_
  refine get_WC_14_numbers (pc1 := 4) C hK kw_289 d_R_tell_1 rfl ?_
  refine g_iconst (pc1 := 5) (v := (0 : Int32)) C d_R_tell_4 rfl ic_0 ?_
  have hg := gd_some hF
  replace hF := hg.2
  refine g_iald (pc1 := 6) C hK 15 (f := (μ.1 15)) rfl hg.1 d_R_tell_5 rfl ?_
  refine g_istore_n (pc1 := 7) (L1 := [(2, .int ((μ.1 15) (0 : Int32).toNatClampNeg)), (0, .ref (a 14)), (1, .int x1)]) C d_R_tell_6 rfl rfl (by decide) rfl ?_
  refine g_iload_n (pc1 := 8) C d_R_tell_7 rfl rfl 2 rfl ?_
  by_cases h0 : x1 = (4 : Int32)
  · replace hF := ite_t hF h0
    refine g_tblIn C 44 d_R_tell_8 4 (by rw [h0]; exact ti_4) (by decide) (by decide) rfl (by decide) ?_
    refine g_aload_n (pc1 := 45) C d_R_tell_44 rfl rfl 1 rfl ?_
    refine g_iload_n (pc1 := 46) C d_R_tell_45 rfl rfl 0 rfl ?_
    obtain ⟨⟨r1, m1⟩, hm1, hF⟩ := bnd_some hF
    refine g_callVI (pc1 := 49) (ws1 := WC a cs m1) (As := [.int ((μ.1 15) (0 : Int32).toNatClampNeg)]) (rest := []) (b := a 14) C hK 1 (c_R_tellTent l D cs a μ ((μ.1 15) (0 : Int32).toNatClampNeg) r1 m1 hm1) s_R_tellTent kw_290 14 rfl rfl rfl ⟨Nat.le_of_ble_eq_true rfl, Nat.le_of_ble_eq_true rfl⟩ ⟨rfl, rfl⟩ d_R_tell_46 rfl rfl (Nat.le_of_ble_eq_true rfl) ?_
    have hg := gd_some hF
    replace hF := hg.2
    exact g_zret C hr hlk (isZ_n hg.1) d_R_tell_49 (fst_of hF) (congrArg (WC a cs) (snd_of hF))
  replace hF := ite_f hF h0
  by_cases h1 : x1 = (5 : Int32)
  · replace hF := ite_t hF h1
    refine g_tblIn C 50 d_R_tell_8 5 (by rw [h1]; exact ti_5) (by decide) (by decide) rfl (by decide) ?_
    refine g_aload_n (pc1 := 51) C d_R_tell_50 rfl rfl 1 rfl ?_
    refine g_iload_n (pc1 := 52) C d_R_tell_51 rfl rfl 0 rfl ?_
    refine g_aload_n (pc1 := 53) C d_R_tell_52 rfl rfl 1 rfl ?_
    refine get_WC_14_numbers (pc1 := 56) C hK kw_289 d_R_tell_53 rfl ?_
    refine g_iconst (pc1 := 57) (v := (1 : Int32)) C d_R_tell_56 rfl ic_1 ?_
    have hg := gd_some hF
    replace hF := hg.2
    refine g_iald (pc1 := 58) C hK 15 (f := (μ.1 15)) rfl hg.1 d_R_tell_57 rfl ?_
    refine g_aload_n (pc1 := 59) C d_R_tell_58 rfl rfl 1 rfl ?_
    refine get_WC_14_numbers (pc1 := 62) C hK kw_289 d_R_tell_59 rfl ?_
    refine g_iconst (pc1 := 63) (v := (2 : Int32)) C d_R_tell_62 rfl ic_2 ?_
    have hg := gd_some hF
    replace hF := hg.2
    refine g_iald (pc1 := 64) C hK 15 (f := (μ.1 15)) rfl hg.1 d_R_tell_63 rfl ?_
    refine g_aload_n (pc1 := 65) C d_R_tell_64 rfl rfl 1 rfl ?_
    refine get_WC_14_numbers (pc1 := 68) C hK kw_289 d_R_tell_65 rfl ?_
    refine g_iconst (pc1 := 69) (v := (3 : Int32)) C d_R_tell_68 rfl ic_3 ?_
    have hg := gd_some hF
    replace hF := hg.2
    refine g_iald (pc1 := 70) C hK 15 (f := (μ.1 15)) rfl hg.1 d_R_tell_69 rfl ?_
    obtain ⟨⟨r2, m2⟩, hm2, hF⟩ := bnd_some hF
    refine g_callVI (pc1 := 73) (ws1 := WC a cs m2) (As := [.int ((μ.1 15) (0 : Int32).toNatClampNeg), .int ((μ.1 15) (1 : Int32).toNatClampNeg), .int ((μ.1 15) (2 : Int32).toNatClampNeg), .int ((μ.1 15) (3 : Int32).toNatClampNeg)]) (rest := []) (b := a 14) C hK 4 (c_R_tellPeg l D cs a μ ((μ.1 15) (0 : Int32).toNatClampNeg) ((μ.1 15) (1 : Int32).toNatClampNeg) ((μ.1 15) (2 : Int32).toNatClampNeg) ((μ.1 15) (3 : Int32).toNatClampNeg) r2 m2 hm2) s_R_tellPeg kw_291 14 rfl rfl rfl ⟨Nat.le_of_ble_eq_true rfl, Nat.le_of_ble_eq_true rfl⟩ ⟨rfl, rfl⟩ d_R_tell_70 rfl rfl (Nat.le_of_ble_eq_true rfl) ?_
    have hg := gd_some hF
    replace hF := hg.2
    exact g_zret C hr hlk (isZ_n hg.1) d_R_tell_73 (fst_of hF) (congrArg (WC a cs) (snd_of hF))
  replace hF := ite_f hF h1
  by_cases h2 : x1 = (6 : Int32)
  · replace hF := ite_t hF h2
    refine g_tblIn C 74 d_R_tell_8 6 (by rw [h2]; exact ti_6) (by decide) (by decide) rfl (by decide) ?_
    refine g_aload_n (pc1 := 75) C d_R_tell_74 rfl rfl 1 rfl ?_
    refine g_iload_n (pc1 := 76) C d_R_tell_75 rfl rfl 0 rfl ?_
    obtain ⟨⟨r3, m3⟩, hm3, hF⟩ := bnd_some hF
    refine g_callVI (pc1 := 79) (ws1 := WC a cs m3) (As := [.int ((μ.1 15) (0 : Int32).toNatClampNeg)]) (rest := []) (b := a 14) C hK 1 (c_R_tellWet l D cs a μ ((μ.1 15) (0 : Int32).toNatClampNeg) r3 m3 hm3) s_R_tellWet kw_292 14 rfl rfl rfl ⟨Nat.le_of_ble_eq_true rfl, Nat.le_of_ble_eq_true rfl⟩ ⟨rfl, rfl⟩ d_R_tell_76 rfl rfl (Nat.le_of_ble_eq_true rfl) ?_
    have hg := gd_some hF
    replace hF := hg.2
    exact g_zret C hr hlk (isZ_n hg.1) d_R_tell_79 (fst_of hF) (congrArg (WC a cs) (snd_of hF))
  replace hF := ite_f hF h2
  by_cases h3 : x1 = (7 : Int32)
  · replace hF := ite_t hF h3
    refine g_tblIn C 80 d_R_tell_8 7 (by rw [h3]; exact ti_7) (by decide) (by decide) rfl (by decide) ?_
    refine g_aload_n (pc1 := 81) C d_R_tell_80 rfl rfl 1 rfl ?_
    refine g_iload_n (pc1 := 82) C d_R_tell_81 rfl rfl 0 rfl ?_
    obtain ⟨⟨r4, m4⟩, hm4, hF⟩ := bnd_some hF
    refine g_callVI (pc1 := 85) (ws1 := WC a cs m4) (As := [.int ((μ.1 15) (0 : Int32).toNatClampNeg)]) (rest := []) (b := a 14) C hK 1 (c_R_tellWall l D cs a μ ((μ.1 15) (0 : Int32).toNatClampNeg) r4 m4 hm4) s_R_tellWall kw_293 14 rfl rfl rfl ⟨Nat.le_of_ble_eq_true rfl, Nat.le_of_ble_eq_true rfl⟩ ⟨rfl, rfl⟩ d_R_tell_82 rfl rfl (Nat.le_of_ble_eq_true rfl) ?_
    have hg := gd_some hF
    replace hF := hg.2
    exact g_zret C hr hlk (isZ_n hg.1) d_R_tell_85 (fst_of hF) (congrArg (WC a cs) (snd_of hF))
  replace hF := ite_f hF h3
  by_cases h4 : x1 = (8 : Int32)
  · replace hF := ite_t hF h4
    refine g_tblIn C 86 d_R_tell_8 8 (by rw [h4]; exact ti_8) (by decide) (by decide) rfl (by decide) ?_
    refine g_aload_n (pc1 := 87) C d_R_tell_86 rfl rfl 1 rfl ?_
    refine g_iload_n (pc1 := 88) C d_R_tell_87 rfl rfl 0 rfl ?_
    refine g_aload_n (pc1 := 89) C d_R_tell_88 rfl rfl 1 rfl ?_
    refine get_WC_14_numbers (pc1 := 92) C hK kw_289 d_R_tell_89 rfl ?_
    refine g_iconst (pc1 := 93) (v := (1 : Int32)) C d_R_tell_92 rfl ic_1 ?_
    have hg := gd_some hF
    replace hF := hg.2
    refine g_iald (pc1 := 94) C hK 15 (f := (μ.1 15)) rfl hg.1 d_R_tell_93 rfl ?_
    obtain ⟨⟨r5, m5⟩, hm5, hF⟩ := bnd_some hF
    refine g_callVI (pc1 := 97) (ws1 := WC a cs m5) (As := [.int ((μ.1 15) (0 : Int32).toNatClampNeg), .int ((μ.1 15) (1 : Int32).toNatClampNeg)]) (rest := []) (b := a 14) C hK 2 (c_R_tellOdds l D cs a μ ((μ.1 15) (0 : Int32).toNatClampNeg) ((μ.1 15) (1 : Int32).toNatClampNeg) r5 m5 hm5) s_R_tellOdds kw_294 14 rfl rfl rfl ⟨Nat.le_of_ble_eq_true rfl, Nat.le_of_ble_eq_true rfl⟩ ⟨rfl, rfl⟩ d_R_tell_94 rfl rfl (Nat.le_of_ble_eq_true rfl) ?_
    have hg := gd_some hF
    replace hF := hg.2
    exact g_zret C hr hlk (isZ_n hg.1) d_R_tell_97 (fst_of hF) (congrArg (WC a cs) (snd_of hF))
  replace hF := ite_f hF h4
  have q0 := ne_toInt ti_4 h0
  have q1 := ne_toInt ti_5 h1
  have q2 := ne_toInt ti_6 h2
  have q3 := ne_toInt ti_7 h3
  have q4 := ne_toInt ti_8 h4
  refine g_tblOut C 98 d_R_tell_8 (by omega) (by decide) ?_
  refine g_aload_n (pc1 := 99) C d_R_tell_98 rfl rfl 1 rfl ?_
  refine g_iload_n (pc1 := 100) C d_R_tell_99 rfl rfl 0 rfl ?_
  obtain ⟨⟨r6, m6⟩, hm6, hF⟩ := bnd_some hF
  refine g_callVI (pc1 := 103) (ws1 := WC a cs m6) (As := [.int ((μ.1 15) (0 : Int32).toNatClampNeg)]) (rest := []) (b := a 14) C hK 1 (c_R_tellGone l D cs a μ ((μ.1 15) (0 : Int32).toNatClampNeg) r6 m6 hm6) s_R_tellGone kw_295 14 rfl rfl rfl ⟨Nat.le_of_ble_eq_true rfl, Nat.le_of_ble_eq_true rfl⟩ ⟨rfl, rfl⟩ d_R_tell_100 rfl rfl (Nat.le_of_ble_eq_true rfl) ?_
  have hg := gd_some hF
  replace hF := hg.2
  exact g_zret C hr hlk (isZ_n hg.1) d_R_tell_103 (fst_of hF) (congrArg (WC a cs) (snd_of hF))
-- TentPegs$Reader.skipBlanks()V
set_option maxHeartbeats 4000000 in
set_option maxRecDepth 100000 in
theorem p_R_skipBlanks_0 {p : Program} {l : Launch} {e : Env} {s : State} {m : MethodId} {args : Array Value} {below : List Frame} {meth : Method} {c : Code} {D : va_G} {cs : Nat → ClassId} {a : Nat → Nat} {μ1 : Mem} (C : Cx p s m args c b_R_skipBlanks 1 "TentPegs$Reader") (hK : va_K D classes (tys cs) s) (hr : meth.sig.returnType = none) (hlk : meth.locks = false)  : ∀ (μ : Mem) , F_R_skipBlanks_0  μ = some μ1 → G p l e { frames := 0, cells := 0, slots := 0, locals := 0 } s m args below meth c (MQ below (Qv (AC a) D (WC a cs μ1)) args s 0 0 (AC a)) D (AC a) 1 (WC a cs μ) 0 [(0, .ref (a 14))] [] := by
  refine iter_ind (fun (K0 : Mem → Option Mem) => ∀ (μ : Mem) , K0 μ = some μ1 → G p l e { frames := 0, cells := 0, slots := 0, locals := 0 } s m args below meth c (MQ below (Qv (AC a) D (WC a cs μ1)) args s 0 0 (AC a)) D (AC a) 1 (WC a cs μ) 0 [(0, .ref (a 14))] []) ?_ ?_ NF
  · intro μ hF
    exact none_no hF
  · intro K0 hK0 μ hF
    unfold S_R_skipBlanks_0 at hF
    refine g_aload_n (pc1 := 1) C d_R_skipBlanks_0 rfl rfl 0 rfl ?_
    refine get_WC_14_at (pc1 := 4) C hK (v := (μ.1 14 4)) rfl kw_272 d_R_skipBlanks_1 rfl ?_
    refine g_aload_n (pc1 := 5) C d_R_skipBlanks_4 rfl rfl 0 rfl ?_
    refine get_WC_14_length (pc1 := 8) C hK (v := (μ.1 14 3)) rfl kw_271 d_R_skipBlanks_5 rfl ?_
    refine g_icmp_ge (pc1 := 11) C 38 d_R_skipBlanks_8 rfl (by decide) (fun c1 => ?_) (fun c1 => ?_)
    · replace hF := ite_t hF c1
      exact g_vret C hr hlk d_R_skipBlanks_38 (congrArg (WC a cs) (Option.some.inj hF))
    · replace hF := ite_f hF c1
      refine g_aload_n (pc1 := 12) C d_R_skipBlanks_11 rfl rfl 0 rfl ?_
      refine get_WC_14_text (pc1 := 15) C hK kw_269 d_R_skipBlanks_12 rfl ?_
      refine g_aload_n (pc1 := 16) C d_R_skipBlanks_15 rfl rfl 0 rfl ?_
      refine get_WC_14_at (pc1 := 19) C hK (v := (μ.1 14 4)) rfl kw_272 d_R_skipBlanks_16 rfl ?_
      have hg := gd_some hF
      replace hF := hg.2
      refine g_bald (pc1 := 20) C hK 13 (f := (μ.1 13)) rfl hg.1 d_R_skipBlanks_19 rfl ?_
      refine g_bipush (pc1 := 22) (v := (32 : Int32)) C d_R_skipBlanks_20 rfl bp_32 ?_
      refine g_icmp_ne (pc1 := 25) C 38 d_R_skipBlanks_22 rfl (by decide) (fun c1 => ?_) (fun c1 => ?_)
      · replace hF := ite_f hF c1
        exact g_vret C hr hlk d_R_skipBlanks_38 (congrArg (WC a cs) (Option.some.inj hF))
      · replace hF := ite_t hF c1
        refine g_aload_n (pc1 := 26) C d_R_skipBlanks_25 rfl rfl 0 rfl ?_
        refine g_dup (pc1 := 27) C d_R_skipBlanks_26 rfl rfl ?_
        refine get_WC_14_at (pc1 := 30) C hK (v := (μ.1 14 4)) rfl kw_272 d_R_skipBlanks_27 rfl ?_
        refine g_iconst (pc1 := 31) (v := (1 : Int32)) C d_R_skipBlanks_30 rfl ic_1 ?_
        refine g_iadd (pc1 := 32) C d_R_skipBlanks_31 rfl ?_
        refine put_WC_14_at (pc1 := 35) C hK kw_272 d_R_skipBlanks_32 rfl ?_
        refine g_goto C 0 d_R_skipBlanks_35 (by decide) ?_
        exact g_sub [0] rfl (hK0 (stI μ 14 4 ((μ.1 14 4) + (1 : Int32))) hF)
set_option maxHeartbeats 4000000 in
set_option maxRecDepth 100000 in
theorem c_R_skipBlanks (l : Launch) (D : va_G) (cs : Nat → ClassId) (a : Nat → Nat) (μ : Mem)  (μ1 : Mem) (hF : F_R_skipBlanks μ = some μ1) : MetV l y_R_skipBlanks b_R_skipBlanks 1 none { frames := 0, cells := 0, slots := 0, locals := 0 } D cs (AC a) (WC a cs μ) [.ref (a 14)] (WC a cs μ1) := by
  refine met_of rfl (by decide +kernel) (Nat.le_of_ble_eq_true rfl) (fun p e s m below meth c C hK hr hlk => ?_)
  unfold F_R_skipBlanks at hF
  show G p l e { frames := 0, cells := 0, slots := 0, locals := 0 } s m _ below meth c _ D (AC a) 1 (WC a cs μ) 0 [(0, .ref (a 14))] []
  exact g_sub [0] rfl (p_R_skipBlanks_0 C hK hr hlk  μ hF)
-- TentPegs$Reader.isFigure(B)Z
set_option maxHeartbeats 4000000 in
set_option maxRecDepth 100000 in
theorem c_R_isFigure (l : Launch) (x0 : Int32) (r : Int32) (hF : F_R_isFigure x0 = some r) : SetI l y_R_isFigure b_R_isFigure 1 (some .boolean) { frames := 1, cells := 0, slots := 0, locals := 22 } [.int x0] r := by
  refine met_ofS rfl (by decide +kernel) (Nat.le_of_ble_eq_true rfl) (fun p e s m below meth c C hr hlk => ?_)
  unfold F_R_isFigure at hF
  show G p l e { frames := 1, cells := 0, slots := 0, locals := 22 } s m _ below meth c _ (fun _ => 0, fun _ _ => 0) (fun _ => False) 1 [] 0 [(0, .int x0)] []
  refine g_iload_n (pc1 := 1) C d_R_isFigure_0 rfl rfl 0 rfl ?_
  refine g_bipush (pc1 := 3) (v := (48 : Int32)) C d_R_isFigure_1 rfl bp_48 ?_
  refine g_bipush (pc1 := 5) (v := (57 : Int32)) C d_R_isFigure_3 rfl bp_57 ?_
  obtain ⟨r1, hr1, hF⟩ := bnd_some hF
  refine g_callNI (pc1 := 8) (As := [.int x0, .int (48 : Int32), .int (57 : Int32)]) (rest := []) C 3 (c_T_within l x0 (48 : Int32) (57 : Int32) r1 hr1) s_T_within 4 rfl rfl ⟨Nat.le_of_ble_eq_true rfl, Nat.le_of_ble_eq_true rfl⟩ ⟨rfl, rfl⟩ d_R_isFigure_5 rfl rfl (Nat.le_of_ble_eq_true rfl) ?_
  have hg := gd_some hF
  replace hF := hg.2
  exact g_zret C hr hlk (isZ_n hg.1) d_R_isFigure_8 (Option.some.inj hF) rfl
-- TentPegs$Reader.stepOverNumber()V
set_option maxHeartbeats 4000000 in
set_option maxRecDepth 100000 in
theorem p_R_stepOverNumber_71 {p : Program} {l : Launch} {e : Env} {s : State} {m : MethodId} {args : Array Value} {below : List Frame} {meth : Method} {c : Code} {D : va_G} {cs : Nat → ClassId} {a : Nat → Nat} {μ1 : Mem} (C : Cx p s m args c b_R_stepOverNumber 1 "TentPegs$Reader") (hK : va_K D classes (tys cs) s) (hr : meth.sig.returnType = none) (hlk : meth.locks = false)  (μ : Mem)  (hF : F_R_stepOverNumber_71  μ = some μ1) : G p l e { frames := 2, cells := 0, slots := 0, locals := 42 } s m args below meth c (MQ below (Qv (AC a) D (WC a cs μ1)) args s 0 0 (AC a)) D (AC a) 1 (WC a cs μ) 71 [(0, .ref (a 14))] [] := by
  unfold F_R_stepOverNumber_71 at hF
  refine g_aload_n (pc1 := 72) C d_R_stepOverNumber_71 rfl rfl 0 rfl ?_
  refine g_aload_n (pc1 := 73) C d_R_stepOverNumber_72 rfl rfl 0 rfl ?_
  refine get_WC_14_at (pc1 := 76) C hK (v := (μ.1 14 4)) rfl kw_272 d_R_stepOverNumber_73 rfl ?_
  refine g_aload_n (pc1 := 77) C d_R_stepOverNumber_76 rfl rfl 0 rfl ?_
  refine get_WC_14_start (pc1 := 80) C hK (v := (μ.1 14 5)) rfl kw_298 d_R_stepOverNumber_77 rfl ?_
  refine g_isub (pc1 := 81) C d_R_stepOverNumber_80 rfl ?_
  refine g_iconst (pc1 := 82) (v := (2 : Int32)) C d_R_stepOverNumber_81 rfl ic_2 ?_
  refine g_icmp_gt (pc1 := 85) C 89 d_R_stepOverNumber_82 rfl (by decide) (fun c1 => ?_) (fun c1 => ?_)
  · replace hF := ite_t hF c1
    refine g_iconst (pc1 := 90) (v := (0 : Int32)) C d_R_stepOverNumber_89 rfl ic_0 ?_
    refine put_WC_14_token (pc1 := 93) C hK kw_299 d_R_stepOverNumber_90 rfl ?_
    exact g_vret C hr hlk d_R_stepOverNumber_93 (congrArg (WC a cs) (Option.some.inj hF))
  · replace hF := ite_f hF c1
    refine g_iconst (pc1 := 86) (v := (2 : Int32)) C d_R_stepOverNumber_85 rfl ic_2 ?_
    refine g_goto C 90 d_R_stepOverNumber_86 (by decide) ?_
    refine put_WC_14_token (pc1 := 93) C hK kw_299 d_R_stepOverNumber_90 rfl ?_
    exact g_vret C hr hlk d_R_stepOverNumber_93 (congrArg (WC a cs) (Option.some.inj hF))
set_option maxHeartbeats 4000000 in
set_option maxRecDepth 100000 in
theorem p_R_stepOverNumber_5 {p : Program} {l : Launch} {e : Env} {s : State} {m : MethodId} {args : Array Value} {below : List Frame} {meth : Method} {c : Code} {D : va_G} {cs : Nat → ClassId} {a : Nat → Nat} {μ1 : Mem} (C : Cx p s m args c b_R_stepOverNumber 1 "TentPegs$Reader") (hK : va_K D classes (tys cs) s) (hr : meth.sig.returnType = none) (hlk : meth.locks = false)  : ∀ (μ : Mem) , F_R_stepOverNumber_5  μ = some μ1 → G p l e { frames := 2, cells := 0, slots := 0, locals := 42 } s m args below meth c (MQ below (Qv (AC a) D (WC a cs μ1)) args s 0 0 (AC a)) D (AC a) 1 (WC a cs μ) 5 [(0, .ref (a 14))] [] := by
  refine iter_ind (fun (K5 : Mem → Option Mem) => ∀ (μ : Mem) , K5 μ = some μ1 → G p l e { frames := 2, cells := 0, slots := 0, locals := 42 } s m args below meth c (MQ below (Qv (AC a) D (WC a cs μ1)) args s 0 0 (AC a)) D (AC a) 1 (WC a cs μ) 5 [(0, .ref (a 14))] []) ?_ ?_ NF
  · intro μ hF
    exact none_no hF
  · intro K5 hK5 μ hF
    unfold S_R_stepOverNumber_5 at hF
    refine g_aload_n (pc1 := 6) C d_R_stepOverNumber_5 rfl rfl 0 rfl ?_
    refine get_WC_14_at (pc1 := 9) C hK (v := (μ.1 14 4)) rfl kw_272 d_R_stepOverNumber_6 rfl ?_
    refine g_aload_n (pc1 := 10) C d_R_stepOverNumber_9 rfl rfl 0 rfl ?_
    refine get_WC_14_length (pc1 := 13) C hK (v := (μ.1 14 3)) rfl kw_271 d_R_stepOverNumber_10 rfl ?_
    refine g_icmp_ge (pc1 := 16) C 71 d_R_stepOverNumber_13 rfl (by decide) (fun c1 => ?_) (fun c1 => ?_)
    · replace hF := ite_t hF c1
      exact g_sub [0] rfl (p_R_stepOverNumber_71 C hK hr hlk  μ hF)
    · replace hF := ite_f hF c1
      refine g_aload_n (pc1 := 17) C d_R_stepOverNumber_16 rfl rfl 0 rfl ?_
      refine get_WC_14_text (pc1 := 20) C hK kw_269 d_R_stepOverNumber_17 rfl ?_
      refine g_aload_n (pc1 := 21) C d_R_stepOverNumber_20 rfl rfl 0 rfl ?_
      refine get_WC_14_at (pc1 := 24) C hK (v := (μ.1 14 4)) rfl kw_272 d_R_stepOverNumber_21 rfl ?_
      have hg := gd_some hF
      replace hF := hg.2
      refine g_bald (pc1 := 25) C hK 13 (f := (μ.1 13)) rfl hg.1 d_R_stepOverNumber_24 rfl ?_
      obtain ⟨r1, hr1, hF⟩ := bnd_some hF
      refine g_callSI (pc1 := 28) (As := [.int ((μ.1 13) (μ.1 14 4).toNatClampNeg)]) (rest := []) C 1 (c_R_isFigure l ((μ.1 13) (μ.1 14 4).toNatClampNeg) r1 hr1) s_R_isFigure kw_297 rfl ⟨Nat.le_of_ble_eq_true rfl, Nat.le_of_ble_eq_true rfl⟩ ⟨rfl, rfl⟩ d_R_stepOverNumber_25 rfl rfl (Nat.le_of_ble_eq_true rfl) ?_
      refine g_if_eq (pc1 := 31) C 71 d_R_stepOverNumber_28 rfl (by decide) (fun c1 => ?_) (fun c1 => ?_)
      · replace hF := ite_t hF c1
        exact g_sub [0] rfl (p_R_stepOverNumber_71 C hK hr hlk  μ hF)
      · replace hF := ite_f hF c1
        refine g_aload_n (pc1 := 32) C d_R_stepOverNumber_31 rfl rfl 0 rfl ?_
        refine g_bipush (pc1 := 34) (v := (10 : Int32)) C d_R_stepOverNumber_32 rfl bp_10 ?_
        refine g_aload_n (pc1 := 35) C d_R_stepOverNumber_34 rfl rfl 0 rfl ?_
        refine get_WC_14_number (pc1 := 38) C hK (v := (μ.1 14 7)) rfl kw_296 d_R_stepOverNumber_35 rfl ?_
        refine g_imul (pc1 := 39) C d_R_stepOverNumber_38 rfl ?_
        refine g_aload_n (pc1 := 40) C d_R_stepOverNumber_39 rfl rfl 0 rfl ?_
        refine get_WC_14_text (pc1 := 43) C hK kw_269 d_R_stepOverNumber_40 rfl ?_
        refine g_aload_n (pc1 := 44) C d_R_stepOverNumber_43 rfl rfl 0 rfl ?_
        refine get_WC_14_at (pc1 := 47) C hK (v := (μ.1 14 4)) rfl kw_272 d_R_stepOverNumber_44 rfl ?_
        have hg := gd_some hF
        replace hF := hg.2
        refine g_bald (pc1 := 48) C hK 13 (f := (μ.1 13)) rfl hg.1 d_R_stepOverNumber_47 rfl ?_
        refine g_iadd (pc1 := 49) C d_R_stepOverNumber_48 rfl ?_
        refine g_bipush (pc1 := 51) (v := (48 : Int32)) C d_R_stepOverNumber_49 rfl bp_48 ?_
        refine g_isub (pc1 := 52) C d_R_stepOverNumber_51 rfl ?_
        refine g_bipush (pc1 := 54) (v := (100 : Int32)) C d_R_stepOverNumber_52 rfl bp_100 ?_
        refine g_irem (pc1 := 55) C d_R_stepOverNumber_54 rfl nzi_100 ?_
        refine put_WC_14_number (pc1 := 58) C hK kw_296 d_R_stepOverNumber_55 rfl ?_
        refine g_aload_n (pc1 := 59) C d_R_stepOverNumber_58 rfl rfl 0 rfl ?_
        refine g_dup (pc1 := 60) C d_R_stepOverNumber_59 rfl rfl ?_
        refine get_WC_14_at (pc1 := 63) C hK (v := (μ.1 14 4)) rfl kw_272 d_R_stepOverNumber_60 rfl ?_
        refine g_iconst (pc1 := 64) (v := (1 : Int32)) C d_R_stepOverNumber_63 rfl ic_1 ?_
        refine g_iadd (pc1 := 65) C d_R_stepOverNumber_64 rfl ?_
        refine put_WC_14_at (pc1 := 68) C hK kw_272 d_R_stepOverNumber_65 rfl ?_
        refine g_goto C 5 d_R_stepOverNumber_68 (by decide) ?_
        exact g_sub [0] rfl (hK5 (stI (stI μ 14 7 (((((10 : Int32) * (μ.1 14 7)) + ((μ.1 13) (μ.1 14 4).toNatClampNeg)) - (48 : Int32)) - ((((10 : Int32) * (μ.1 14 7)) + ((μ.1 13) (μ.1 14 4).toNatClampNeg)) - (48 : Int32)) / (100 : Int32) * (100 : Int32))) 14 4 ((μ.1 14 4) + (1 : Int32))) hF)
set_option maxHeartbeats 4000000 in
set_option maxRecDepth 100000 in
theorem c_R_stepOverNumber (l : Launch) (D : va_G) (cs : Nat → ClassId) (a : Nat → Nat) (μ : Mem)  (μ1 : Mem) (hF : F_R_stepOverNumber μ = some μ1) : MetV l y_R_stepOverNumber b_R_stepOverNumber 1 none { frames := 2, cells := 0, slots := 0, locals := 42 } D cs (AC a) (WC a cs μ) [.ref (a 14)] (WC a cs μ1) := by
  refine met_of rfl (by decide +kernel) (Nat.le_of_ble_eq_true rfl) (fun p e s m below meth c C hK hr hlk => ?_)
  unfold F_R_stepOverNumber at hF
  show G p l e { frames := 2, cells := 0, slots := 0, locals := 42 } s m _ below meth c _ D (AC a) 1 (WC a cs μ) 0 [(0, .ref (a 14))] []
  refine g_aload_n (pc1 := 1) C d_R_stepOverNumber_0 rfl rfl 0 rfl ?_
  refine g_iconst (pc1 := 2) (v := (0 : Int32)) C d_R_stepOverNumber_1 rfl ic_0 ?_
  refine put_WC_14_number (pc1 := 5) C hK kw_296 d_R_stepOverNumber_2 rfl ?_
  exact g_sub [0] rfl (p_R_stepOverNumber_5 C hK hr hlk  (stI μ 14 7 (0 : Int32)) hF)
-- TentPegs$Reader.isLetter(B)Z
set_option maxHeartbeats 4000000 in
set_option maxRecDepth 100000 in
theorem c_R_isLetter (l : Launch) (x0 : Int32) (r : Int32) (hF : F_R_isLetter x0 = some r) : SetI l y_R_isLetter b_R_isLetter 1 (some .boolean) { frames := 1, cells := 0, slots := 0, locals := 22 } [.int x0] r := by
  refine met_ofS rfl (by decide +kernel) (Nat.le_of_ble_eq_true rfl) (fun p e s m below meth c C hr hlk => ?_)
  unfold F_R_isLetter at hF
  show G p l e { frames := 1, cells := 0, slots := 0, locals := 22 } s m _ below meth c _ (fun _ => 0, fun _ _ => 0) (fun _ => False) 1 [] 0 [(0, .int x0)] []
  refine g_iload_n (pc1 := 1) C d_R_isLetter_0 rfl rfl 0 rfl ?_
  refine g_bipush (pc1 := 3) (v := (97 : Int32)) C d_R_isLetter_1 rfl bp_97 ?_
  refine g_bipush (pc1 := 5) (v := (122 : Int32)) C d_R_isLetter_3 rfl bp_122 ?_
  obtain ⟨r1, hr1, hF⟩ := bnd_some hF
  refine g_callNI (pc1 := 8) (As := [.int x0, .int (97 : Int32), .int (122 : Int32)]) (rest := []) C 3 (c_T_within l x0 (97 : Int32) (122 : Int32) r1 hr1) s_T_within 4 rfl rfl ⟨Nat.le_of_ble_eq_true rfl, Nat.le_of_ble_eq_true rfl⟩ ⟨rfl, rfl⟩ d_R_isLetter_5 rfl rfl (Nat.le_of_ble_eq_true rfl) ?_
  have hg := gd_some hF
  replace hF := hg.2
  exact g_zret C hr hlk (isZ_n hg.1) d_R_isLetter_8 (Option.some.inj hF) rfl
