-- TentPegsModel.readItem()Z
set_option maxHeartbeats 4000000 in
set_option maxRecDepth 100000 in
theorem p_M_readItem_173 {p : Program} {l : Launch} {e : Env} {s : State} {m : MethodId} {args : Array Value} {below : List Frame} {meth : Method} {c : Code} {D : va_G} {cs : Nat → ClassId} {a : Nat → Nat} {r : Int32} {μ1 : Mem} (C : Cx p s m args c b_M_readItem 4 "TentPegsModel") (hK : va_K D classes (tys cs) s) (hr : meth.sig.returnType = (some .boolean)) (hlk : meth.locks = false)  : ∀ (μ : Mem) (x2 : Int32) (x3 : Int32), F_M_readItem_173  μ x2 x3 = some (r, μ1) → G p l e { frames := 3, cells := 0, slots := 0, locals := 66 } s m args below meth c (MQ below (Qi (AM a) D (WM a cs μ1) r) args s 0 0 (AM a)) D (AM a) 4 (WM a cs μ) 173 [(0, .ref (a 0)), (2, .int x2), (3, .int x3)] [] := by
  refine iter_ind (fun (K173 : Mem → Int32 → Int32 → Option (Int32 × Mem)) => ∀ (μ : Mem) (x2 : Int32) (x3 : Int32), K173 μ x2 x3 = some (r, μ1) → G p l e { frames := 3, cells := 0, slots := 0, locals := 66 } s m args below meth c (MQ below (Qi (AM a) D (WM a cs μ1) r) args s 0 0 (AM a)) D (AM a) 4 (WM a cs μ) 173 [(0, .ref (a 0)), (2, .int x2), (3, .int x3)] []) ?_ ?_ NF
  · intro μ x2 x3 hF
    exact none_no hF
  · intro K173 hK173 μ x2 x3 hF
    unfold S_M_readItem_173 at hF
    refine g_iload_n (pc1 := 174) C d_M_readItem_173 rfl rfl 2 rfl ?_
    refine g_iload_n (pc1 := 175) C d_M_readItem_174 rfl rfl 1 rfl ?_
    refine g_icmp_ge (pc1 := 178) C 218 d_M_readItem_175 rfl (by decide) (fun c1 => ?_) (fun c1 => ?_)
    · replace hF := ite_t hF c1
      refine g_aload_n (pc1 := 219) C d_M_readItem_218 rfl rfl 0 rfl ?_
      refine get_WM_0_token (pc1 := 222) C hK (v := (μ.1 0 10)) rfl kw_202 d_M_readItem_219 rfl ?_
      refine g_iconst (pc1 := 223) (v := (4 : Int32)) C d_M_readItem_222 rfl ic_4 ?_
      refine g_icmp_eq (pc1 := 226) C 228 d_M_readItem_223 rfl (by decide) (fun c1 => ?_) (fun c1 => ?_)
      · replace hF := ite_t hF c1
        refine g_aload_n (pc1 := 229) C d_M_readItem_228 rfl rfl 0 rfl ?_
        refine g_dup (pc1 := 230) C d_M_readItem_229 rfl rfl ?_
        refine get_WM_0_items (pc1 := 233) C hK (v := (μ.1 0 13)) rfl kw_213 d_M_readItem_230 rfl ?_
        refine g_iconst (pc1 := 234) (v := (1 : Int32)) C d_M_readItem_233 rfl ic_1 ?_
        refine g_iadd (pc1 := 235) C d_M_readItem_234 rfl ?_
        refine put_WM_0_items (pc1 := 238) C hK kw_213 d_M_readItem_235 rfl ?_
        refine g_aload_n (pc1 := 239) C d_M_readItem_238 rfl rfl 0 rfl ?_
        obtain ⟨m1, hm1, hF⟩ := bnd_some hF
        refine g_callVV (pc1 := 242) (ws1 := WM a cs m1) (As := []) (rest := []) (b := a 0) C hK 0 (c_M_next l D cs a (stI μ 0 13 ((μ.1 0 13) + (1 : Int32)))  m1 hm1) s_M_next kw_215 0 rfl rfl rfl ⟨Nat.le_of_ble_eq_true rfl, Nat.le_of_ble_eq_true rfl⟩ ⟨rfl, rfl⟩ d_M_readItem_239 rfl rfl (Nat.le_of_ble_eq_true rfl) ?_
        refine g_iconst (pc1 := 243) (v := (1 : Int32)) C d_M_readItem_242 rfl ic_1 ?_
        exact g_zret C hr hlk rfl d_M_readItem_243 (fst_of hF) (congrArg (WM a cs) (snd_of hF))
      · replace hF := ite_f hF c1
        refine g_iconst (pc1 := 227) (v := (0 : Int32)) C d_M_readItem_226 rfl ic_0 ?_
        exact g_zret C hr hlk rfl d_M_readItem_227 (fst_of hF) (congrArg (WM a cs) (snd_of hF))
    · replace hF := ite_f hF c1
      refine g_aload_n (pc1 := 179) C d_M_readItem_178 rfl rfl 0 rfl ?_
      refine get_WM_0_token (pc1 := 182) C hK (v := (μ.1 0 10)) rfl kw_202 d_M_readItem_179 rfl ?_
      refine g_iconst (pc1 := 183) (v := (3 : Int32)) C d_M_readItem_182 rfl ic_3 ?_
      refine g_icmp_eq (pc1 := 186) C 188 d_M_readItem_183 rfl (by decide) (fun c1 => ?_) (fun c1 => ?_)
      · replace hF := ite_t hF c1
        refine g_aload_n (pc1 := 189) C d_M_readItem_188 rfl rfl 0 rfl ?_
        refine get_WM_0_item (pc1 := 192) C hK kw_214 d_M_readItem_189 rfl ?_
        refine g_iconst (pc1 := 193) (v := (5 : Int32)) C d_M_readItem_192 rfl ic_5 ?_
        refine g_aload_n (pc1 := 194) C d_M_readItem_193 rfl rfl 0 rfl ?_
        refine get_WM_0_items (pc1 := 197) C hK (v := (μ.1 0 13)) rfl kw_213 d_M_readItem_194 rfl ?_
        refine g_imul (pc1 := 198) C d_M_readItem_197 rfl ?_
        refine g_iconst (pc1 := 199) (v := (1 : Int32)) C d_M_readItem_198 rfl ic_1 ?_
        refine g_iadd (pc1 := 200) C d_M_readItem_199 rfl ?_
        refine g_iload_n (pc1 := 201) C d_M_readItem_200 rfl rfl 2 rfl ?_
        refine g_iadd (pc1 := 202) C d_M_readItem_201 rfl ?_
        refine g_aload_n (pc1 := 203) C d_M_readItem_202 rfl rfl 0 rfl ?_
        refine get_WM_0_value (pc1 := 206) C hK (v := (μ.2 11)) rfl kw_198 d_M_readItem_203 rfl ?_
        refine g_l2i (pc1 := 207) C d_M_readItem_206 rfl ?_
        have hg := gd_some hF
        replace hF := hg.2
        refine g_iast (pc1 := 208) (ws1 := WM a cs (stI μ 7 ((((5 : Int32) * (μ.1 0 13)) + (1 : Int32)) + x3).toNatClampNeg ((μ.2 11).toInt32))) C hK 7 (f := (μ.1 7)) rfl hg.1 (set_WM_7 _ _ _ _ _) d_M_readItem_207 rfl ?_
        refine g_aload_n (pc1 := 209) C d_M_readItem_208 rfl rfl 0 rfl ?_
        obtain ⟨m2, hm2, hF⟩ := bnd_some hF
        refine g_callVV (pc1 := 212) (ws1 := WM a cs m2) (As := []) (rest := []) (b := a 0) C hK 0 (c_M_next l D cs a (stI μ 7 ((((5 : Int32) * (μ.1 0 13)) + (1 : Int32)) + x3).toNatClampNeg ((μ.2 11).toInt32))  m2 hm2) s_M_next kw_215 0 rfl rfl rfl ⟨Nat.le_of_ble_eq_true rfl, Nat.le_of_ble_eq_true rfl⟩ ⟨rfl, rfl⟩ d_M_readItem_209 rfl rfl (Nat.le_of_ble_eq_true rfl) ?_
        refine g_iinc (pc1 := 215) (v := (x3 + (1 : Int32))) (L1 := [(3, .int (x3 + (1 : Int32))), (0, .ref (a 0)), (2, .int x2)]) C d_M_readItem_212 rfl 2 rfl (by rw [ic_1]) (by decide) rfl ?_
        refine g_goto C 173 d_M_readItem_215 (by decide) ?_
        exact g_sub [1, 2, 0] rfl (hK173 m2 x2 (x3 + (1 : Int32)) hF)
      · replace hF := ite_f hF c1
        refine g_iconst (pc1 := 187) (v := (0 : Int32)) C d_M_readItem_186 rfl ic_0 ?_
        exact g_zret C hr hlk rfl d_M_readItem_187 (fst_of hF) (congrArg (WM a cs) (snd_of hF))
set_option maxHeartbeats 4000000 in
set_option maxRecDepth 100000 in
theorem p_M_readItem_154 {p : Program} {l : Launch} {e : Env} {s : State} {m : MethodId} {args : Array Value} {below : List Frame} {meth : Method} {c : Code} {D : va_G} {cs : Nat → ClassId} {a : Nat → Nat} {r : Int32} {μ1 : Mem} (C : Cx p s m args c b_M_readItem 4 "TentPegsModel") (hK : va_K D classes (tys cs) s) (hr : meth.sig.returnType = (some .boolean)) (hlk : meth.locks = false)  (μ : Mem) (x1 : Int32) (s0 : Int32) (hF : F_M_readItem_154  μ x1 s0 = some (r, μ1)) : G p l e { frames := 3, cells := 0, slots := 0, locals := 66 } s m args below meth c (MQ below (Qi (AM a) D (WM a cs μ1) r) args s 0 0 (AM a)) D (AM a) 4 (WM a cs μ) 154 [(0, .ref (a 0)), (1, .int x1)] [.int s0] := by
  unfold F_M_readItem_154 at hF
  refine g_istore_n (pc1 := 155) (L1 := [(2, .int s0), (0, .ref (a 0)), (1, .int x1)]) C d_M_readItem_154 rfl rfl (by decide) rfl ?_
  refine g_aload_n (pc1 := 156) C d_M_readItem_155 rfl rfl 1 rfl ?_
  refine get_WM_0_item (pc1 := 159) C hK kw_214 d_M_readItem_156 rfl ?_
  refine g_iconst (pc1 := 160) (v := (5 : Int32)) C d_M_readItem_159 rfl ic_5 ?_
  refine g_aload_n (pc1 := 161) C d_M_readItem_160 rfl rfl 1 rfl ?_
  refine get_WM_0_items (pc1 := 164) C hK (v := (μ.1 0 13)) rfl kw_213 d_M_readItem_161 rfl ?_
  refine g_imul (pc1 := 165) C d_M_readItem_164 rfl ?_
  refine g_iload_n (pc1 := 166) C d_M_readItem_165 rfl rfl 2 rfl ?_
  have hg := gd_some hF
  replace hF := hg.2
  refine g_iast (pc1 := 167) (ws1 := WM a cs (stI μ 7 ((5 : Int32) * (μ.1 0 13)).toNatClampNeg x1)) C hK 7 (f := (μ.1 7)) rfl hg.1 (set_WM_7 _ _ _ _ _) d_M_readItem_166 rfl ?_
  refine g_aload_n (pc1 := 168) C d_M_readItem_167 rfl rfl 1 rfl ?_
  obtain ⟨m1, hm1, hF⟩ := bnd_some hF
  refine g_callVV (pc1 := 171) (ws1 := WM a cs m1) (As := []) (rest := []) (b := a 0) C hK 0 (c_M_next l D cs a (stI μ 7 ((5 : Int32) * (μ.1 0 13)).toNatClampNeg x1)  m1 hm1) s_M_next kw_215 0 rfl rfl rfl ⟨Nat.le_of_ble_eq_true rfl, Nat.le_of_ble_eq_true rfl⟩ ⟨rfl, rfl⟩ d_M_readItem_168 rfl rfl (Nat.le_of_ble_eq_true rfl) ?_
  refine g_iconst (pc1 := 172) (v := (0 : Int32)) C d_M_readItem_171 rfl ic_0 ?_
  refine g_istore_n (pc1 := 173) (L1 := [(3, .int (0 : Int32)), (2, .int s0), (0, .ref (a 0)), (1, .int x1)]) C d_M_readItem_172 rfl rfl (by decide) rfl ?_
  exact g_sub [2, 1, 0] rfl (p_M_readItem_173 C hK hr hlk  m1 s0 (0 : Int32) hF)
set_option maxHeartbeats 4000000 in
set_option maxRecDepth 100000 in
theorem p_M_readItem_130 {p : Program} {l : Launch} {e : Env} {s : State} {m : MethodId} {args : Array Value} {below : List Frame} {meth : Method} {c : Code} {D : va_G} {cs : Nat → ClassId} {a : Nat → Nat} {r : Int32} {μ1 : Mem} (C : Cx p s m args c b_M_readItem 4 "TentPegsModel") (hK : va_K D classes (tys cs) s) (hr : meth.sig.returnType = (some .boolean)) (hlk : meth.locks = false)  (μ : Mem) (x1 : Int32) (s0 : Int32) (s1 : Int32) (hF : F_M_readItem_130  μ x1 s0 s1 = some (r, μ1)) : G p l e { frames := 3, cells := 0, slots := 0, locals := 66 } s m args below meth c (MQ below (Qi (AM a) D (WM a cs μ1) r) args s 0 0 (AM a)) D (AM a) 4 (WM a cs μ) 130 [(0, .ref (a 0)), (1, .int x1)] [.int s0, .int s1] := by
  unfold F_M_readItem_130 at hF
  refine g_icmp_eq (pc1 := 133) C 135 d_M_readItem_130 rfl (by decide) (fun c1 => ?_) (fun c1 => ?_)
  · replace hF := ite_t hF c1
    refine g_iload_n (pc1 := 136) C d_M_readItem_135 rfl rfl 1 rfl ?_
    refine g_iconst (pc1 := 137) (v := (1 : Int32)) C d_M_readItem_136 rfl ic_1 ?_
    refine g_icmp_ne (pc1 := 140) C 144 d_M_readItem_137 rfl (by decide) (fun c1 => ?_) (fun c1 => ?_)
    · replace hF := ite_f hF c1
      refine g_iload_n (pc1 := 145) C d_M_readItem_144 rfl rfl 1 rfl ?_
      refine g_iconst (pc1 := 146) (v := (4 : Int32)) C d_M_readItem_145 rfl ic_4 ?_
      refine g_icmp_ne (pc1 := 149) C 153 d_M_readItem_146 rfl (by decide) (fun c1 => ?_) (fun c1 => ?_)
      · replace hF := ite_f hF c1
        refine g_iconst (pc1 := 154) (v := (1 : Int32)) C d_M_readItem_153 rfl ic_1 ?_
        exact g_sub [0, 1] rfl (p_M_readItem_154 C hK hr hlk  μ x1 (1 : Int32) hF)
      · replace hF := ite_t hF c1
        refine g_iconst (pc1 := 150) (v := (2 : Int32)) C d_M_readItem_149 rfl ic_2 ?_
        refine g_goto C 154 d_M_readItem_150 (by decide) ?_
        exact g_sub [0, 1] rfl (p_M_readItem_154 C hK hr hlk  μ x1 (2 : Int32) hF)
    · replace hF := ite_t hF c1
      refine g_iconst (pc1 := 141) (v := (4 : Int32)) C d_M_readItem_140 rfl ic_4 ?_
      refine g_goto C 154 d_M_readItem_141 (by decide) ?_
      exact g_sub [0, 1] rfl (p_M_readItem_154 C hK hr hlk  μ x1 (4 : Int32) hF)
  · replace hF := ite_f hF c1
    refine g_iconst (pc1 := 134) (v := (0 : Int32)) C d_M_readItem_133 rfl ic_0 ?_
    exact g_zret C hr hlk rfl d_M_readItem_134 (fst_of hF) (congrArg (WM a cs) (snd_of hF))
set_option maxHeartbeats 4000000 in
set_option maxRecDepth 100000 in
theorem p_M_readItem_118 {p : Program} {l : Launch} {e : Env} {s : State} {m : MethodId} {args : Array Value} {below : List Frame} {meth : Method} {c : Code} {D : va_G} {cs : Nat → ClassId} {a : Nat → Nat} {r : Int32} {μ1 : Mem} (C : Cx p s m args c b_M_readItem 4 "TentPegsModel") (hK : va_K D classes (tys cs) s) (hr : meth.sig.returnType = (some .boolean)) (hlk : meth.locks = false)  (μ : Mem) (x1 : Int32) (s0 : Int32) (hF : F_M_readItem_118  μ x1 s0 = some (r, μ1)) : G p l e { frames := 3, cells := 0, slots := 0, locals := 66 } s m args below meth c (MQ below (Qi (AM a) D (WM a cs μ1) r) args s 0 0 (AM a)) D (AM a) 4 (WM a cs μ) 118 [(0, .ref (a 0)), (1, .int x1)] [.int s0] := by
  unfold F_M_readItem_118 at hF
  refine g_aload_n (pc1 := 119) C d_M_readItem_118 rfl rfl 0 rfl ?_
  refine get_WM_0_items (pc1 := 122) C hK (v := (μ.1 0 13)) rfl kw_213 d_M_readItem_119 rfl ?_
  refine g_if_ne (pc1 := 125) C 129 d_M_readItem_122 rfl (by decide) (fun c1 => ?_) (fun c1 => ?_)
  · replace hF := ite_f hF c1
    refine g_iconst (pc1 := 130) (v := (0 : Int32)) C d_M_readItem_129 rfl ic_0 ?_
    exact g_sub [0, 1] rfl (p_M_readItem_130 C hK hr hlk  μ x1 (0 : Int32) s0 hF)
  · replace hF := ite_t hF c1
    refine g_iconst (pc1 := 126) (v := (1 : Int32)) C d_M_readItem_125 rfl ic_1 ?_
    refine g_goto C 130 d_M_readItem_126 (by decide) ?_
    exact g_sub [0, 1] rfl (p_M_readItem_130 C hK hr hlk  μ x1 (1 : Int32) s0 hF)
set_option maxHeartbeats 4000000 in
set_option maxRecDepth 100000 in
theorem p_M_readItem_103 {p : Program} {l : Launch} {e : Env} {s : State} {m : MethodId} {args : Array Value} {below : List Frame} {meth : Method} {c : Code} {D : va_G} {cs : Nat → ClassId} {a : Nat → Nat} {r : Int32} {μ1 : Mem} (C : Cx p s m args c b_M_readItem 4 "TentPegsModel") (hK : va_K D classes (tys cs) s) (hr : meth.sig.returnType = (some .boolean)) (hlk : meth.locks = false)  (μ : Mem) (s0 : Int32) (hF : F_M_readItem_103  μ s0 = some (r, μ1)) : G p l e { frames := 3, cells := 0, slots := 0, locals := 66 } s m args below meth c (MQ below (Qi (AM a) D (WM a cs μ1) r) args s 0 0 (AM a)) D (AM a) 4 (WM a cs μ) 103 [(0, .ref (a 0))] [.int s0] := by
  unfold F_M_readItem_103 at hF
  refine g_istore_n (pc1 := 104) (L1 := [(1, .int s0), (0, .ref (a 0))]) C d_M_readItem_103 rfl rfl (by decide) rfl ?_
  refine g_iload_n (pc1 := 105) C d_M_readItem_104 rfl rfl 0 rfl ?_
  refine g_iconst (pc1 := 106) (v := (-1 : Int32)) C d_M_readItem_105 rfl ic_m1 ?_
  refine g_icmp_eq (pc1 := 109) C 133 d_M_readItem_106 rfl (by decide) (fun c1 => ?_) (fun c1 => ?_)
  · replace hF := ite_t hF c1
    refine g_iconst (pc1 := 134) (v := (0 : Int32)) C d_M_readItem_133 rfl ic_0 ?_
    exact g_zret C hr hlk rfl d_M_readItem_134 (fst_of hF) (congrArg (WM a cs) (snd_of hF))
  · replace hF := ite_f hF c1
    refine g_iload_n (pc1 := 110) C d_M_readItem_109 rfl rfl 0 rfl ?_
    refine g_if_ne (pc1 := 113) C 117 d_M_readItem_110 rfl (by decide) (fun c1 => ?_) (fun c1 => ?_)
    · replace hF := ite_f hF c1
      refine g_iconst (pc1 := 118) (v := (0 : Int32)) C d_M_readItem_117 rfl ic_0 ?_
      exact g_sub [1, 0] rfl (p_M_readItem_118 C hK hr hlk  μ s0 (0 : Int32) hF)
    · replace hF := ite_t hF c1
      refine g_iconst (pc1 := 114) (v := (1 : Int32)) C d_M_readItem_113 rfl ic_1 ?_
      refine g_goto C 118 d_M_readItem_114 (by decide) ?_
      exact g_sub [1, 0] rfl (p_M_readItem_118 C hK hr hlk  μ s0 (1 : Int32) hF)
set_option maxHeartbeats 4000000 in
set_option maxRecDepth 100000 in
theorem c_M_readItem (l : Launch) (D : va_G) (cs : Nat → ClassId) (a : Nat → Nat) (μ : Mem)  (r : Int32) (μ1 : Mem) (hF : F_M_readItem μ = some (r, μ1)) : MetI l y_M_readItem b_M_readItem 4 (some .boolean) { frames := 3, cells := 0, slots := 0, locals := 66 } D cs (AM a) (WM a cs μ) [.ref (a 0)] r (WM a cs μ1) := by
  refine met_of rfl (by decide +kernel) (Nat.le_of_ble_eq_true rfl) (fun p e s m below meth c C hK hr hlk => ?_)
  unfold F_M_readItem at hF
  show G p l e { frames := 3, cells := 0, slots := 0, locals := 66 } s m _ below meth c _ D (AM a) 4 (WM a cs μ) 0 [(0, .ref (a 0))] []
  refine g_aload_n (pc1 := 1) C d_M_readItem_0 rfl rfl 0 rfl ?_
  refine get_WM_0_token (pc1 := 4) C hK (v := (μ.1 0 10)) rfl kw_202 d_M_readItem_1 rfl ?_
  refine g_iconst (pc1 := 5) (v := (2 : Int32)) C d_M_readItem_4 rfl ic_2 ?_
  refine g_icmp_eq (pc1 := 8) C 12 d_M_readItem_5 rfl (by decide) (fun c1 => ?_) (fun c1 => ?_)
  · replace hF := ite_t hF c1
    refine g_aload_n (pc1 := 13) C d_M_readItem_12 rfl rfl 0 rfl ?_
    refine get_WM_0_value (pc1 := 16) C hK (v := (μ.2 11)) rfl kw_198 d_M_readItem_13 rfl ?_
    refine g_ldc2 (pc1 := 19) (v := (397703 : Int64)) C d_M_readItem_16 rfl kw_207 ?_
    refine g_lcmp (pc1 := 20) C d_M_readItem_19 rfl ?_
    refine g_if_ne (pc1 := 23) C 27 d_M_readItem_20 rfl (by decide) (fun c1 => ?_) (fun c1 => ?_)
    · replace hF := ite_f hF c1
      refine g_aload_n (pc1 := 28) C d_M_readItem_27 rfl rfl 0 rfl ?_
      refine get_WM_0_value (pc1 := 31) C hK (v := (μ.2 11)) rfl kw_198 d_M_readItem_28 rfl ?_
      refine g_ldc2 (pc1 := 34) (v := (11806 : Int64)) C d_M_readItem_31 rfl kw_208 ?_
      refine g_lcmp (pc1 := 35) C d_M_readItem_34 rfl ?_
      refine g_if_ne (pc1 := 38) C 42 d_M_readItem_35 rfl (by decide) (fun c1 => ?_) (fun c1 => ?_)
      · replace hF := ite_f hF c1
        refine g_aload_n (pc1 := 43) C d_M_readItem_42 rfl rfl 0 rfl ?_
        refine get_WM_0_value (pc1 := 46) C hK (v := (μ.2 11)) rfl kw_198 d_M_readItem_43 rfl ?_
        refine g_ldc2 (pc1 := 49) (v := (16922 : Int64)) C d_M_readItem_46 rfl kw_209 ?_
        refine g_lcmp (pc1 := 50) C d_M_readItem_49 rfl ?_
        refine g_if_ne (pc1 := 53) C 57 d_M_readItem_50 rfl (by decide) (fun c1 => ?_) (fun c1 => ?_)
        · replace hF := ite_f hF c1
          refine g_aload_n (pc1 := 58) C d_M_readItem_57 rfl rfl 0 rfl ?_
          refine get_WM_0_value (pc1 := 61) C hK (v := (μ.2 11)) rfl kw_198 d_M_readItem_58 rfl ?_
          refine g_ldc2 (pc1 := 64) (v := (453774 : Int64)) C d_M_readItem_61 rfl kw_210 ?_
          refine g_lcmp (pc1 := 65) C d_M_readItem_64 rfl ?_
          refine g_if_ne (pc1 := 68) C 72 d_M_readItem_65 rfl (by decide) (fun c1 => ?_) (fun c1 => ?_)
          · replace hF := ite_f hF c1
            refine g_aload_n (pc1 := 73) C d_M_readItem_72 rfl rfl 0 rfl ?_
            refine get_WM_0_value (pc1 := 76) C hK (v := (μ.2 11)) rfl kw_198 d_M_readItem_73 rfl ?_
            refine g_ldc2 (pc1 := 79) (v := (298288 : Int64)) C d_M_readItem_76 rfl kw_211 ?_
            refine g_lcmp (pc1 := 80) C d_M_readItem_79 rfl ?_
            refine g_if_ne (pc1 := 83) C 87 d_M_readItem_80 rfl (by decide) (fun c1 => ?_) (fun c1 => ?_)
            · replace hF := ite_f hF c1
              refine g_aload_n (pc1 := 88) C d_M_readItem_87 rfl rfl 0 rfl ?_
              refine get_WM_0_value (pc1 := 91) C hK (v := (μ.2 11)) rfl kw_198 d_M_readItem_88 rfl ?_
              refine g_ldc2 (pc1 := 94) (v := (149099 : Int64)) C d_M_readItem_91 rfl kw_212 ?_
              refine g_lcmp (pc1 := 95) C d_M_readItem_94 rfl ?_
              refine g_if_ne (pc1 := 98) C 102 d_M_readItem_95 rfl (by decide) (fun c1 => ?_) (fun c1 => ?_)
              · replace hF := ite_f hF c1
                refine g_iconst (pc1 := 103) (v := (-1 : Int32)) C d_M_readItem_102 rfl ic_m1 ?_
                exact g_sub [0] rfl (p_M_readItem_103 C hK hr hlk  μ (-1 : Int32) hF)
              · replace hF := ite_t hF c1
                refine g_iconst (pc1 := 99) (v := (5 : Int32)) C d_M_readItem_98 rfl ic_5 ?_
                refine g_goto C 103 d_M_readItem_99 (by decide) ?_
                exact g_sub [0] rfl (p_M_readItem_103 C hK hr hlk  μ (5 : Int32) hF)
            · replace hF := ite_t hF c1
              refine g_iconst (pc1 := 84) (v := (4 : Int32)) C d_M_readItem_83 rfl ic_4 ?_
              refine g_goto C 103 d_M_readItem_84 (by decide) ?_
              exact g_sub [0] rfl (p_M_readItem_103 C hK hr hlk  μ (4 : Int32) hF)
          · replace hF := ite_t hF c1
            refine g_iconst (pc1 := 69) (v := (3 : Int32)) C d_M_readItem_68 rfl ic_3 ?_
            refine g_goto C 103 d_M_readItem_69 (by decide) ?_
            exact g_sub [0] rfl (p_M_readItem_103 C hK hr hlk  μ (3 : Int32) hF)
        · replace hF := ite_t hF c1
          refine g_iconst (pc1 := 54) (v := (2 : Int32)) C d_M_readItem_53 rfl ic_2 ?_
          refine g_goto C 103 d_M_readItem_54 (by decide) ?_
          exact g_sub [0] rfl (p_M_readItem_103 C hK hr hlk  μ (2 : Int32) hF)
      · replace hF := ite_t hF c1
        refine g_iconst (pc1 := 39) (v := (1 : Int32)) C d_M_readItem_38 rfl ic_1 ?_
        refine g_goto C 103 d_M_readItem_39 (by decide) ?_
        exact g_sub [0] rfl (p_M_readItem_103 C hK hr hlk  μ (1 : Int32) hF)
    · replace hF := ite_t hF c1
      refine g_iconst (pc1 := 24) (v := (0 : Int32)) C d_M_readItem_23 rfl ic_0 ?_
      refine g_goto C 103 d_M_readItem_24 (by decide) ?_
      exact g_sub [0] rfl (p_M_readItem_103 C hK hr hlk  μ (0 : Int32) hF)
  · replace hF := ite_f hF c1
    refine g_iconst (pc1 := 9) (v := (-1 : Int32)) C d_M_readItem_8 rfl ic_m1 ?_
    refine g_goto C 103 d_M_readItem_9 (by decide) ?_
    exact g_sub [0] rfl (p_M_readItem_103 C hK hr hlk  μ (-1 : Int32) hF)
-- TentPegsModel.readAll()I
set_option maxHeartbeats 4000000 in
set_option maxRecDepth 100000 in
theorem p_M_readAll_27 {p : Program} {l : Launch} {e : Env} {s : State} {m : MethodId} {args : Array Value} {below : List Frame} {meth : Method} {c : Code} {D : va_G} {cs : Nat → ClassId} {a : Nat → Nat} {r : Int32} {μ1 : Mem} (C : Cx p s m args c b_M_readAll 1 "TentPegsModel") (hK : va_K D classes (tys cs) s) (hr : meth.sig.returnType = (some .int)) (hlk : meth.locks = false)  : ∀ (μ : Mem) , F_M_readAll_27  μ = some (r, μ1) → G p l e { frames := 4, cells := 0, slots := 0, locals := 89 } s m args below meth c (MQ below (Qi (AM a) D (WM a cs μ1) r) args s 0 0 (AM a)) D (AM a) 1 (WM a cs μ) 27 [(0, .ref (a 0))] [] := by
  refine iter_ind (fun (K27 : Mem → Option (Int32 × Mem)) => ∀ (μ : Mem) , K27 μ = some (r, μ1) → G p l e { frames := 4, cells := 0, slots := 0, locals := 89 } s m args below meth c (MQ below (Qi (AM a) D (WM a cs μ1) r) args s 0 0 (AM a)) D (AM a) 1 (WM a cs μ) 27 [(0, .ref (a 0))] []) ?_ ?_ NF
  · intro μ hF
    exact none_no hF
  · intro K27 hK27 μ hF
    unfold S_M_readAll_27 at hF
    refine g_aload_n (pc1 := 28) C d_M_readAll_27 rfl rfl 0 rfl ?_
    refine get_WM_0_token (pc1 := 31) C hK (v := (μ.1 0 10)) rfl kw_202 d_M_readAll_28 rfl ?_
    refine g_iconst (pc1 := 32) (v := (1 : Int32)) C d_M_readAll_31 rfl ic_1 ?_
    refine g_icmp_eq (pc1 := 35) C 62 d_M_readAll_32 rfl (by decide) (fun c1 => ?_) (fun c1 => ?_)
    · replace hF := ite_t hF c1
      refine g_iconst (pc1 := 63) (v := (-1 : Int32)) C d_M_readAll_62 rfl ic_m1 ?_
      exact g_iret C hr hlk d_M_readAll_63 (fst_of hF) (congrArg (WM a cs) (snd_of hF))
    · replace hF := ite_f hF c1
      refine g_aload_n (pc1 := 36) C d_M_readAll_35 rfl rfl 0 rfl ?_
      obtain ⟨⟨r1, m1⟩, hm1, hF⟩ := bnd_some hF
      refine g_callVI (pc1 := 39) (ws1 := WM a cs m1) (As := []) (rest := []) (b := a 0) C hK 0 (c_M_readItem l D cs a μ  r1 m1 hm1) s_M_readItem kw_216 0 rfl rfl rfl ⟨Nat.le_of_ble_eq_true rfl, Nat.le_of_ble_eq_true rfl⟩ ⟨rfl, rfl⟩ d_M_readAll_36 rfl rfl (Nat.le_of_ble_eq_true rfl) ?_
      refine g_if_ne (pc1 := 42) C 27 d_M_readAll_39 rfl (by decide) (fun c1 => ?_) (fun c1 => ?_)
      · replace hF := ite_f hF c1
        exact g_sub [0] rfl (hK27 m1 hF)
      · replace hF := ite_t hF c1
        refine g_aload_n (pc1 := 43) C d_M_readAll_42 rfl rfl 0 rfl ?_
        refine get_WM_0_token (pc1 := 46) C hK (v := (m1.1 0 10)) rfl kw_202 d_M_readAll_43 rfl ?_
        refine g_iconst (pc1 := 47) (v := (1 : Int32)) C d_M_readAll_46 rfl ic_1 ?_
        refine g_icmp_ne (pc1 := 50) C 57 d_M_readAll_47 rfl (by decide) (fun c1 => ?_) (fun c1 => ?_)
        · replace hF := ite_f hF c1
          refine g_aload_n (pc1 := 58) C d_M_readAll_57 rfl rfl 0 rfl ?_
          refine get_WM_0_start (pc1 := 61) C hK (v := (m1.1 0 9)) rfl kw_197 d_M_readAll_58 rfl ?_
          exact g_iret C hr hlk d_M_readAll_61 (fst_of hF) (congrArg (WM a cs) (snd_of hF))
        · replace hF := ite_t hF c1
          refine g_aload_n (pc1 := 51) C d_M_readAll_50 rfl rfl 0 rfl ?_
          refine get_WM_0_size (pc1 := 54) C hK (v := (m1.1 0 7)) rfl kw_192 d_M_readAll_51 rfl ?_
          refine g_goto C 61 d_M_readAll_54 (by decide) ?_
          exact g_iret C hr hlk d_M_readAll_61 (fst_of hF) (congrArg (WM a cs) (snd_of hF))
set_option maxHeartbeats 4000000 in
set_option maxRecDepth 100000 in
theorem c_M_readAll (l : Launch) (D : va_G) (cs : Nat → ClassId) (a : Nat → Nat) (μ : Mem)  (r : Int32) (μ1 : Mem) (hF : F_M_readAll μ = some (r, μ1)) : MetI l y_M_readAll b_M_readAll 1 (some .int) { frames := 4, cells := 0, slots := 0, locals := 89 } D cs (AM a) (WM a cs μ) [.ref (a 0)] r (WM a cs μ1) := by
  refine met_of rfl (by decide +kernel) (Nat.le_of_ble_eq_true rfl) (fun p e s m below meth c C hK hr hlk => ?_)
  unfold F_M_readAll at hF
  show G p l e { frames := 4, cells := 0, slots := 0, locals := 89 } s m _ below meth c _ D (AM a) 1 (WM a cs μ) 0 [(0, .ref (a 0))] []
  refine g_aload_n (pc1 := 1) C d_M_readAll_0 rfl rfl 0 rfl ?_
  refine g_iconst (pc1 := 2) (v := (0 : Int32)) C d_M_readAll_1 rfl ic_0 ?_
  refine put_WM_0_items (pc1 := 5) C hK kw_213 d_M_readAll_2 rfl ?_
  refine g_aload_n (pc1 := 6) C d_M_readAll_5 rfl rfl 0 rfl ?_
  refine g_iconst (pc1 := 7) (v := (0 : Int32)) C d_M_readAll_6 rfl ic_0 ?_
  refine put_WM_0_at (pc1 := 10) C hK kw_194 d_M_readAll_7 rfl ?_
  refine g_aload_n (pc1 := 11) C d_M_readAll_10 rfl rfl 0 rfl ?_
  obtain ⟨m1, hm1, hF⟩ := bnd_some hF
  refine g_callVV (pc1 := 14) (ws1 := WM a cs m1) (As := []) (rest := []) (b := a 0) C hK 0 (c_M_next l D cs a (stI (stI μ 0 13 (0 : Int32)) 0 8 (0 : Int32))  m1 hm1) s_M_next kw_215 0 rfl rfl rfl ⟨Nat.le_of_ble_eq_true rfl, Nat.le_of_ble_eq_true rfl⟩ ⟨rfl, rfl⟩ d_M_readAll_11 rfl rfl (Nat.le_of_ble_eq_true rfl) ?_
  refine g_aload_n (pc1 := 15) C d_M_readAll_14 rfl rfl 0 rfl ?_
  refine get_WM_0_token (pc1 := 18) C hK (v := (m1.1 0 10)) rfl kw_202 d_M_readAll_15 rfl ?_
  refine g_iconst (pc1 := 19) (v := (1 : Int32)) C d_M_readAll_18 rfl ic_1 ?_
  refine g_icmp_ne (pc1 := 22) C 27 d_M_readAll_19 rfl (by decide) (fun c1 => ?_) (fun c1 => ?_)
  · replace hF := ite_f hF c1
    exact g_sub [0] rfl (p_M_readAll_27 C hK hr hlk  m1 hF)
  · replace hF := ite_t hF c1
    refine g_aload_n (pc1 := 23) C d_M_readAll_22 rfl rfl 0 rfl ?_
    refine get_WM_0_size (pc1 := 26) C hK (v := (m1.1 0 7)) rfl kw_192 d_M_readAll_23 rfl ?_
    exact g_iret C hr hlk d_M_readAll_26 (fst_of hF) (congrArg (WM a cs) (snd_of hF))
-- TentPegsModel.isTold(I)Z
set_option maxHeartbeats 4000000 in
set_option maxRecDepth 100000 in
theorem c_M_isTold (l : Launch) (D : va_G) (cs : Nat → ClassId) (a : Nat → Nat) (μ : Mem) (x1 : Int32) (r : Int32) (μ1 : Mem) (hF : F_M_isTold μ x1 = some (r, μ1)) : MetI l y_M_isTold b_M_isTold 4 (some .boolean) { frames := 3, cells := 0, slots := 0, locals := 70 } D cs (AM a) (WM a cs μ) [.ref (a 0), .int x1] r (WM a cs μ1) := by
  refine met_of rfl (by decide +kernel) (Nat.le_of_ble_eq_true rfl) (fun p e s m below meth c C hK hr hlk => ?_)
  unfold F_M_isTold at hF
  show G p l e { frames := 3, cells := 0, slots := 0, locals := 70 } s m _ below meth c _ D (AM a) 4 (WM a cs μ) 0 [(0, .ref (a 0)), (1, .int x1)] []
  refine g_aload_n (pc1 := 1) C d_M_isTold_0 rfl rfl 0 rfl ?_
  refine get_WM_0_item (pc1 := 4) C hK kw_214 d_M_isTold_1 rfl ?_
  refine g_iconst (pc1 := 5) (v := (5 : Int32)) C d_M_isTold_4 rfl ic_5 ?_
  refine g_iload_n (pc1 := 6) C d_M_isTold_5 rfl rfl 1 rfl ?_
  refine g_imul (pc1 := 7) C d_M_isTold_6 rfl ?_
  refine g_iconst (pc1 := 8) (v := (1 : Int32)) C d_M_isTold_7 rfl ic_1 ?_
  refine g_iadd (pc1 := 9) C d_M_isTold_8 rfl ?_
  have hg := gd_some hF
  replace hF := hg.2
  refine g_iald (pc1 := 10) C hK 7 (f := (μ.1 7)) rfl hg.1 d_M_isTold_9 rfl ?_
  refine g_istore_n (pc1 := 11) (L1 := [(2, .int ((μ.1 7) (((5 : Int32) * x1) + (1 : Int32)).toNatClampNeg)), (0, .ref (a 0)), (1, .int x1)]) C d_M_isTold_10 rfl rfl (by decide) rfl ?_
  refine g_aload_n (pc1 := 12) C d_M_isTold_11 rfl rfl 1 rfl ?_
  refine get_WM_0_item (pc1 := 15) C hK kw_214 d_M_isTold_12 rfl ?_
  refine g_iconst (pc1 := 16) (v := (5 : Int32)) C d_M_isTold_15 rfl ic_5 ?_
  refine g_iload_n (pc1 := 17) C d_M_isTold_16 rfl rfl 2 rfl ?_
  refine g_imul (pc1 := 18) C d_M_isTold_17 rfl ?_
  refine g_iconst (pc1 := 19) (v := (2 : Int32)) C d_M_isTold_18 rfl ic_2 ?_
  refine g_iadd (pc1 := 20) C d_M_isTold_19 rfl ?_
  have hg := gd_some hF
  replace hF := hg.2
  refine g_iald (pc1 := 21) C hK 7 (f := (μ.1 7)) rfl hg.1 d_M_isTold_20 rfl ?_
  refine g_istore_n (pc1 := 22) (L1 := [(3, .int ((μ.1 7) (((5 : Int32) * x1) + (2 : Int32)).toNatClampNeg)), (2, .int ((μ.1 7) (((5 : Int32) * x1) + (1 : Int32)).toNatClampNeg)), (0, .ref (a 0)), (1, .int x1)]) C d_M_isTold_21 rfl rfl (by decide) rfl ?_
  refine g_aload_n (pc1 := 23) C d_M_isTold_22 rfl rfl 2 rfl ?_
  refine get_WM_0_item (pc1 := 26) C hK kw_214 d_M_isTold_23 rfl ?_
  refine g_iconst (pc1 := 27) (v := (5 : Int32)) C d_M_isTold_26 rfl ic_5 ?_
  refine g_iload_n (pc1 := 28) C d_M_isTold_27 rfl rfl 3 rfl ?_
  refine g_imul (pc1 := 29) C d_M_isTold_28 rfl ?_
  have hg := gd_some hF
  replace hF := hg.2
  refine g_iald (pc1 := 30) C hK 7 (f := (μ.1 7)) rfl hg.1 d_M_isTold_29 rfl ?_
  by_cases h0 : ((μ.1 7) ((5 : Int32) * x1).toNatClampNeg) = (0 : Int32)
  · replace hF := ite_t hF h0
    refine g_tblIn C 64 d_M_isTold_30 0 (by rw [h0]; exact ti_0) (by decide) (by decide) rfl (by decide) ?_
    refine g_iload_n (pc1 := 65) C d_M_isTold_64 rfl rfl 1 rfl ?_
    refine g_i2l (pc1 := 66) C d_M_isTold_65 rfl ?_
    refine g_ldc2 (pc1 := 69) (v := (2 : Int64)) C d_M_isTold_66 rfl kw_179 ?_
    refine g_ldc2 (pc1 := 72) (v := (8 : Int64)) C d_M_isTold_69 rfl kw_180 ?_
    obtain ⟨r1, hr1, hF⟩ := bnd_some hF
    refine g_callSI (pc1 := 75) (As := [.long (((μ.1 7) (((5 : Int32) * x1) + (1 : Int32)).toNatClampNeg).toInt64), .long (2 : Int64), .long (8 : Int64)]) (rest := []) C 3 (c_M_in l (((μ.1 7) (((5 : Int32) * x1) + (1 : Int32)).toNatClampNeg).toInt64) (2 : Int64) (8 : Int64) r1 hr1) s_M_in kw_173 rfl ⟨Nat.le_of_ble_eq_true rfl, Nat.le_of_ble_eq_true rfl⟩ ⟨rfl, rfl⟩ d_M_isTold_72 rfl rfl (Nat.le_of_ble_eq_true rfl) ?_
    refine g_if_ne (pc1 := 78) C 80 d_M_isTold_75 rfl (by decide) (fun c1 => ?_) (fun c1 => ?_)
    · replace hF := ite_f hF c1
      refine g_aload_n (pc1 := 81) C d_M_isTold_80 rfl rfl 2 rfl ?_
      refine g_iload_n (pc1 := 82) C d_M_isTold_81 rfl rfl 1 rfl ?_
      obtain ⟨m2, hm2, hF⟩ := bnd_some hF
      refine g_callVV (pc1 := 85) (ws1 := WM a cs m2) (As := [.int ((μ.1 7) (((5 : Int32) * x1) + (1 : Int32)).toNatClampNeg)]) (rest := []) (b := a 0) C hK 1 (c_M_pitch l D cs a μ ((μ.1 7) (((5 : Int32) * x1) + (1 : Int32)).toNatClampNeg) m2 hm2) s_M_pitch kw_181 0 rfl rfl rfl ⟨Nat.le_of_ble_eq_true rfl, Nat.le_of_ble_eq_true rfl⟩ ⟨rfl, rfl⟩ d_M_isTold_82 rfl rfl (Nat.le_of_ble_eq_true rfl) ?_
      refine g_iconst (pc1 := 86) (v := (1 : Int32)) C d_M_isTold_85 rfl ic_1 ?_
      exact g_zret C hr hlk rfl d_M_isTold_86 (fst_of hF) (congrArg (WM a cs) (snd_of hF))
    · replace hF := ite_t hF c1
      refine g_iconst (pc1 := 79) (v := (0 : Int32)) C d_M_isTold_78 rfl ic_0 ?_
      exact g_zret C hr hlk rfl d_M_isTold_79 (fst_of hF) (congrArg (WM a cs) (snd_of hF))
  replace hF := ite_f hF h0
  by_cases h1 : ((μ.1 7) ((5 : Int32) * x1).toNatClampNeg) = (1 : Int32)
  · replace hF := ite_t hF h1
    refine g_tblIn C 87 d_M_isTold_30 1 (by rw [h1]; exact ti_1) (by decide) (by decide) rfl (by decide) ?_
    refine g_aload_n (pc1 := 88) C d_M_isTold_87 rfl rfl 2 rfl ?_
    refine g_iload_n (pc1 := 89) C d_M_isTold_88 rfl rfl 1 rfl ?_
    refine g_iload_n (pc1 := 90) C d_M_isTold_89 rfl rfl 0 rfl ?_
    refine g_aload_n (pc1 := 91) C d_M_isTold_90 rfl rfl 2 rfl ?_
    refine get_WM_0_item (pc1 := 94) C hK kw_214 d_M_isTold_91 rfl ?_
    refine g_iconst (pc1 := 95) (v := (5 : Int32)) C d_M_isTold_94 rfl ic_5 ?_
    refine g_iload_n (pc1 := 96) C d_M_isTold_95 rfl rfl 3 rfl ?_
    refine g_imul (pc1 := 97) C d_M_isTold_96 rfl ?_
    refine g_iconst (pc1 := 98) (v := (3 : Int32)) C d_M_isTold_97 rfl ic_3 ?_
    refine g_iadd (pc1 := 99) C d_M_isTold_98 rfl ?_
    have hg := gd_some hF
    replace hF := hg.2
    refine g_iald (pc1 := 100) C hK 7 (f := (μ.1 7)) rfl hg.1 d_M_isTold_99 rfl ?_
    refine g_aload_n (pc1 := 101) C d_M_isTold_100 rfl rfl 2 rfl ?_
    refine get_WM_0_item (pc1 := 104) C hK kw_214 d_M_isTold_101 rfl ?_
    refine g_iconst (pc1 := 105) (v := (5 : Int32)) C d_M_isTold_104 rfl ic_5 ?_
    refine g_iload_n (pc1 := 106) C d_M_isTold_105 rfl rfl 3 rfl ?_
    refine g_imul (pc1 := 107) C d_M_isTold_106 rfl ?_
    refine g_iconst (pc1 := 108) (v := (4 : Int32)) C d_M_isTold_107 rfl ic_4 ?_
    refine g_iadd (pc1 := 109) C d_M_isTold_108 rfl ?_
    have hg := gd_some hF
    replace hF := hg.2
    refine g_iald (pc1 := 110) C hK 7 (f := (μ.1 7)) rfl hg.1 d_M_isTold_109 rfl ?_
    obtain ⟨r3, hr3, hF⟩ := bnd_some hF
    refine g_callVI (pc1 := 113) (ws1 := WM a cs μ) (As := [.int ((μ.1 7) (((5 : Int32) * x1) + (1 : Int32)).toNatClampNeg), .int ((μ.1 7) (((5 : Int32) * x1) + (2 : Int32)).toNatClampNeg), .int ((μ.1 7) (((5 : Int32) * x1) + (3 : Int32)).toNatClampNeg), .int ((μ.1 7) (((5 : Int32) * x1) + (4 : Int32)).toNatClampNeg)]) (rest := []) (b := a 0) C hK 4 (c_M_isPeg l D cs a μ ((μ.1 7) (((5 : Int32) * x1) + (1 : Int32)).toNatClampNeg) ((μ.1 7) (((5 : Int32) * x1) + (2 : Int32)).toNatClampNeg) ((μ.1 7) (((5 : Int32) * x1) + (3 : Int32)).toNatClampNeg) ((μ.1 7) (((5 : Int32) * x1) + (4 : Int32)).toNatClampNeg) r3 hr3) s_M_isPeg kw_186 0 rfl rfl rfl ⟨Nat.le_of_ble_eq_true rfl, Nat.le_of_ble_eq_true rfl⟩ ⟨rfl, rfl⟩ d_M_isTold_110 rfl rfl (Nat.le_of_ble_eq_true rfl) ?_
    refine g_if_ne (pc1 := 116) C 118 d_M_isTold_113 rfl (by decide) (fun c1 => ?_) (fun c1 => ?_)
    · replace hF := ite_f hF c1
      refine g_aload_n (pc1 := 119) C d_M_isTold_118 rfl rfl 2 rfl ?_
      refine g_iload_n (pc1 := 120) C d_M_isTold_119 rfl rfl 1 rfl ?_
      refine g_iload_n (pc1 := 121) C d_M_isTold_120 rfl rfl 0 rfl ?_
      refine g_aload_n (pc1 := 122) C d_M_isTold_121 rfl rfl 2 rfl ?_
      refine get_WM_0_item (pc1 := 125) C hK kw_214 d_M_isTold_122 rfl ?_
      refine g_iconst (pc1 := 126) (v := (5 : Int32)) C d_M_isTold_125 rfl ic_5 ?_
      refine g_iload_n (pc1 := 127) C d_M_isTold_126 rfl rfl 3 rfl ?_
      refine g_imul (pc1 := 128) C d_M_isTold_127 rfl ?_
      refine g_iconst (pc1 := 129) (v := (3 : Int32)) C d_M_isTold_128 rfl ic_3 ?_
      refine g_iadd (pc1 := 130) C d_M_isTold_129 rfl ?_
      have hg := gd_some hF
      replace hF := hg.2
      refine g_iald (pc1 := 131) C hK 7 (f := (μ.1 7)) rfl hg.1 d_M_isTold_130 rfl ?_
      refine g_aload_n (pc1 := 132) C d_M_isTold_131 rfl rfl 2 rfl ?_
      refine get_WM_0_item (pc1 := 135) C hK kw_214 d_M_isTold_132 rfl ?_
      refine g_iconst (pc1 := 136) (v := (5 : Int32)) C d_M_isTold_135 rfl ic_5 ?_
      refine g_iload_n (pc1 := 137) C d_M_isTold_136 rfl rfl 3 rfl ?_
      refine g_imul (pc1 := 138) C d_M_isTold_137 rfl ?_
      refine g_iconst (pc1 := 139) (v := (4 : Int32)) C d_M_isTold_138 rfl ic_4 ?_
      refine g_iadd (pc1 := 140) C d_M_isTold_139 rfl ?_
      have hg := gd_some hF
      replace hF := hg.2
      refine g_iald (pc1 := 141) C hK 7 (f := (μ.1 7)) rfl hg.1 d_M_isTold_140 rfl ?_
      obtain ⟨m4, hm4, hF⟩ := bnd_some hF
      refine g_callVV (pc1 := 144) (ws1 := WM a cs m4) (As := [.int ((μ.1 7) (((5 : Int32) * x1) + (1 : Int32)).toNatClampNeg), .int ((μ.1 7) (((5 : Int32) * x1) + (2 : Int32)).toNatClampNeg), .int ((μ.1 7) (((5 : Int32) * x1) + (3 : Int32)).toNatClampNeg), .int ((μ.1 7) (((5 : Int32) * x1) + (4 : Int32)).toNatClampNeg)]) (rest := []) (b := a 0) C hK 4 (c_M_drive l D cs a μ ((μ.1 7) (((5 : Int32) * x1) + (1 : Int32)).toNatClampNeg) ((μ.1 7) (((5 : Int32) * x1) + (2 : Int32)).toNatClampNeg) ((μ.1 7) (((5 : Int32) * x1) + (3 : Int32)).toNatClampNeg) ((μ.1 7) (((5 : Int32) * x1) + (4 : Int32)).toNatClampNeg) m4 hm4) s_M_drive kw_187 0 rfl rfl rfl ⟨Nat.le_of_ble_eq_true rfl, Nat.le_of_ble_eq_true rfl⟩ ⟨rfl, rfl⟩ d_M_isTold_141 rfl rfl (Nat.le_of_ble_eq_true rfl) ?_
      refine g_iconst (pc1 := 145) (v := (1 : Int32)) C d_M_isTold_144 rfl ic_1 ?_
      exact g_zret C hr hlk rfl d_M_isTold_145 (fst_of hF) (congrArg (WM a cs) (snd_of hF))
    · replace hF := ite_t hF c1
      refine g_iconst (pc1 := 117) (v := (0 : Int32)) C d_M_isTold_116 rfl ic_0 ?_
      exact g_zret C hr hlk rfl d_M_isTold_117 (fst_of hF) (congrArg (WM a cs) (snd_of hF))
  replace hF := ite_f hF h1
  by_cases h2 : ((μ.1 7) ((5 : Int32) * x1).toNatClampNeg) = (2 : Int32)
  · replace hF := ite_t hF h2
    refine g_tblIn C 146 d_M_isTold_30 2 (by rw [h2]; exact ti_2) (by decide) (by decide) rfl (by decide) ?_
    refine g_aload_n (pc1 := 147) C d_M_isTold_146 rfl rfl 2 rfl ?_
    refine get_WM_0_field (pc1 := 150) C hK kw_172 d_M_isTold_147 rfl ?_
    refine g_iconst (pc1 := 151) (v := (2 : Int32)) C d_M_isTold_150 rfl ic_2 ?_
    refine g_iload_n (pc1 := 152) C d_M_isTold_151 rfl rfl 1 rfl ?_
    have hg := gd_some hF
    replace hF := hg.2
    refine g_iast (pc1 := 153) (ws1 := WM a cs (stI μ 2 (2 : Int32).toNatClampNeg ((μ.1 7) (((5 : Int32) * x1) + (1 : Int32)).toNatClampNeg))) C hK 2 (f := (μ.1 2)) rfl hg.1 (set_WM_2 _ _ _ _ _) d_M_isTold_152 rfl ?_
    refine g_iload_n (pc1 := 154) C d_M_isTold_153 rfl rfl 1 rfl ?_
    refine g_bipush (pc1 := 156) (v := (10 : Int32)) C d_M_isTold_154 rfl bp_10 ?_
    refine g_icmp_ge (pc1 := 159) C 163 d_M_isTold_156 rfl (by decide) (fun c1 => ?_) (fun c1 => ?_)
    · replace hF := ite_t hF c1
      refine g_iconst (pc1 := 164) (v := (0 : Int32)) C d_M_isTold_163 rfl ic_0 ?_
      exact g_zret C hr hlk rfl d_M_isTold_164 (fst_of hF) (congrArg (WM a cs) (snd_of hF))
    · replace hF := ite_f hF c1
      refine g_iconst (pc1 := 160) (v := (1 : Int32)) C d_M_isTold_159 rfl ic_1 ?_
      refine g_goto C 164 d_M_isTold_160 (by decide) ?_
      exact g_zret C hr hlk rfl d_M_isTold_164 (fst_of hF) (congrArg (WM a cs) (snd_of hF))
  replace hF := ite_f hF h2
  by_cases h3 : ((μ.1 7) ((5 : Int32) * x1).toNatClampNeg) = (3 : Int32)
  · replace hF := ite_t hF h3
    refine g_tblIn C 165 d_M_isTold_30 3 (by rw [h3]; exact ti_3) (by decide) (by decide) rfl (by decide) ?_
    refine g_iload_n (pc1 := 166) C d_M_isTold_165 rfl rfl 1 rfl ?_
    obtain ⟨r5, hr5, hF⟩ := bnd_some hF
    refine g_callSI (pc1 := 169) (As := [.int ((μ.1 7) (((5 : Int32) * x1) + (1 : Int32)).toNatClampNeg)]) (rest := []) C 1 (c_M_noWay l ((μ.1 7) (((5 : Int32) * x1) + (1 : Int32)).toNatClampNeg) r5 hr5) s_M_noWay kw_175 rfl ⟨Nat.le_of_ble_eq_true rfl, Nat.le_of_ble_eq_true rfl⟩ ⟨rfl, rfl⟩ d_M_isTold_166 rfl rfl (Nat.le_of_ble_eq_true rfl) ?_
    refine g_if_ne (pc1 := 172) C 185 d_M_isTold_169 rfl (by decide) (fun c1 => ?_) (fun c1 => ?_)
    · replace hF := ite_f hF c1
      refine g_iconst (pc1 := 186) (v := (0 : Int32)) C d_M_isTold_185 rfl ic_0 ?_
      exact g_zret C hr hlk rfl d_M_isTold_186 (fst_of hF) (congrArg (WM a cs) (snd_of hF))
    · replace hF := ite_t hF c1
      refine g_aload_n (pc1 := 173) C d_M_isTold_172 rfl rfl 2 rfl ?_
      refine get_WM_0_field (pc1 := 176) C hK kw_172 d_M_isTold_173 rfl ?_
      refine g_iconst (pc1 := 177) (v := (3 : Int32)) C d_M_isTold_176 rfl ic_3 ?_
      have hg := gd_some hF
      replace hF := hg.2
      refine g_iald (pc1 := 178) C hK 2 (f := (μ.1 2)) rfl hg.1 d_M_isTold_177 rfl ?_
      refine g_iload_n (pc1 := 179) C d_M_isTold_178 rfl rfl 1 rfl ?_
      obtain ⟨r6, hr6, hF⟩ := bnd_some hF
      refine g_callSI (pc1 := 182) (As := [.int ((μ.1 2) (3 : Int32).toNatClampNeg), .int ((μ.1 7) (((5 : Int32) * x1) + (1 : Int32)).toNatClampNeg)]) (rest := []) C 2 (c_M_has l ((μ.1 2) (3 : Int32).toNatClampNeg) ((μ.1 7) (((5 : Int32) * x1) + (1 : Int32)).toNatClampNeg) r6 hr6) s_M_has kw_188 rfl ⟨Nat.le_of_ble_eq_true rfl, Nat.le_of_ble_eq_true rfl⟩ ⟨rfl, rfl⟩ d_M_isTold_179 rfl rfl (Nat.le_of_ble_eq_true rfl) ?_
      refine g_if_eq (pc1 := 185) C 187 d_M_isTold_182 rfl (by decide) (fun c1 => ?_) (fun c1 => ?_)
      · replace hF := ite_t hF c1
        refine g_aload_n (pc1 := 188) C d_M_isTold_187 rfl rfl 2 rfl ?_
        refine get_WM_0_field (pc1 := 191) C hK kw_172 d_M_isTold_188 rfl ?_
        refine g_iconst (pc1 := 192) (v := (3 : Int32)) C d_M_isTold_191 rfl ic_3 ?_
        refine g_dup2 (pc1 := 193) C d_M_isTold_192 rfl rfl rfl ?_
        have hg := gd_some hF
        replace hF := hg.2
        refine g_iald (pc1 := 194) C hK 2 (f := (μ.1 2)) rfl hg.1 d_M_isTold_193 rfl ?_
        refine g_iconst (pc1 := 195) (v := (1 : Int32)) C d_M_isTold_194 rfl ic_1 ?_
        refine g_iload_n (pc1 := 196) C d_M_isTold_195 rfl rfl 1 rfl ?_
        refine g_ishl (pc1 := 197) C d_M_isTold_196 rfl ?_
        refine g_ior (pc1 := 198) C d_M_isTold_197 rfl ?_
        have hg := gd_some hF
        replace hF := hg.2
        refine g_iast (pc1 := 199) (ws1 := WM a cs (stI μ 2 (3 : Int32).toNatClampNeg (((μ.1 2) (3 : Int32).toNatClampNeg) ||| ((1 : Int32) <<< (((μ.1 7) (((5 : Int32) * x1) + (1 : Int32)).toNatClampNeg) &&& 31))))) C hK 2 (f := (μ.1 2)) rfl hg.1 (set_WM_2 _ _ _ _ _) d_M_isTold_198 rfl ?_
        refine g_iconst (pc1 := 200) (v := (1 : Int32)) C d_M_isTold_199 rfl ic_1 ?_
        exact g_zret C hr hlk rfl d_M_isTold_200 (fst_of hF) (congrArg (WM a cs) (snd_of hF))
      · replace hF := ite_f hF c1
        refine g_iconst (pc1 := 186) (v := (0 : Int32)) C d_M_isTold_185 rfl ic_0 ?_
        exact g_zret C hr hlk rfl d_M_isTold_186 (fst_of hF) (congrArg (WM a cs) (snd_of hF))
  replace hF := ite_f hF h3
  by_cases h4 : ((μ.1 7) ((5 : Int32) * x1).toNatClampNeg) = (4 : Int32)
  · replace hF := ite_t hF h4
    refine g_tblIn C 201 d_M_isTold_30 4 (by rw [h4]; exact ti_4) (by decide) (by decide) rfl (by decide) ?_
    refine g_iload_n (pc1 := 202) C d_M_isTold_201 rfl rfl 1 rfl ?_
    obtain ⟨r7, hr7, hF⟩ := bnd_some hF
    refine g_callSI (pc1 := 205) (As := [.int ((μ.1 7) (((5 : Int32) * x1) + (1 : Int32)).toNatClampNeg)]) (rest := []) C 1 (c_M_noWay l ((μ.1 7) (((5 : Int32) * x1) + (1 : Int32)).toNatClampNeg) r7 hr7) s_M_noWay kw_175 rfl ⟨Nat.le_of_ble_eq_true rfl, Nat.le_of_ble_eq_true rfl⟩ ⟨rfl, rfl⟩ d_M_isTold_202 rfl rfl (Nat.le_of_ble_eq_true rfl) ?_
    refine g_if_ne (pc1 := 208) C 214 d_M_isTold_205 rfl (by decide) (fun c1 => ?_) (fun c1 => ?_)
    · replace hF := ite_f hF c1
      refine g_iconst (pc1 := 215) (v := (0 : Int32)) C d_M_isTold_214 rfl ic_0 ?_
      exact g_zret C hr hlk rfl d_M_isTold_215 (fst_of hF) (congrArg (WM a cs) (snd_of hF))
    · replace hF := ite_t hF c1
      refine g_iload_n (pc1 := 209) C d_M_isTold_208 rfl rfl 0 rfl ?_
      refine g_bipush (pc1 := 211) (v := (20 : Int32)) C d_M_isTold_209 rfl bp_20 ?_
      refine g_icmp_le (pc1 := 214) C 216 d_M_isTold_211 rfl (by decide) (fun c1 => ?_) (fun c1 => ?_)
      · replace hF := ite_t hF c1
        refine g_aload_n (pc1 := 217) C d_M_isTold_216 rfl rfl 2 rfl ?_
        refine get_WM_0_field (pc1 := 220) C hK kw_172 d_M_isTold_217 rfl ?_
        refine g_bipush (pc1 := 222) (v := (29 : Int32)) C d_M_isTold_220 rfl bp_29 ?_
        refine g_iload_n (pc1 := 223) C d_M_isTold_222 rfl rfl 1 rfl ?_
        refine g_iadd (pc1 := 224) C d_M_isTold_223 rfl ?_
        refine g_iload_n (pc1 := 225) C d_M_isTold_224 rfl rfl 0 rfl ?_
        have hg := gd_some hF
        replace hF := hg.2
        refine g_iast (pc1 := 226) (ws1 := WM a cs (stI μ 2 ((29 : Int32) + ((μ.1 7) (((5 : Int32) * x1) + (1 : Int32)).toNatClampNeg)).toNatClampNeg ((μ.1 7) (((5 : Int32) * x1) + (2 : Int32)).toNatClampNeg))) C hK 2 (f := (μ.1 2)) rfl hg.1 (set_WM_2 _ _ _ _ _) d_M_isTold_225 rfl ?_
        refine g_iconst (pc1 := 227) (v := (1 : Int32)) C d_M_isTold_226 rfl ic_1 ?_
        exact g_zret C hr hlk rfl d_M_isTold_227 (fst_of hF) (congrArg (WM a cs) (snd_of hF))
      · replace hF := ite_f hF c1
        refine g_iconst (pc1 := 215) (v := (0 : Int32)) C d_M_isTold_214 rfl ic_0 ?_
        exact g_zret C hr hlk rfl d_M_isTold_215 (fst_of hF) (congrArg (WM a cs) (snd_of hF))
  replace hF := ite_f hF h4
  have q0 := ne_toInt ti_0 h0
  have q1 := ne_toInt ti_1 h1
  have q2 := ne_toInt ti_2 h2
  have q3 := ne_toInt ti_3 h3
  have q4 := ne_toInt ti_4 h4
  refine g_tblOut C 228 d_M_isTold_30 (by omega) (by decide) ?_
  refine g_aload_n (pc1 := 229) C d_M_isTold_228 rfl rfl 2 rfl ?_
  refine g_iload_n (pc1 := 230) C d_M_isTold_229 rfl rfl 1 rfl ?_
  obtain ⟨r8, hr8, hF⟩ := bnd_some hF
  refine g_callVI (pc1 := 233) (ws1 := WM a cs μ) (As := [.int ((μ.1 7) (((5 : Int32) * x1) + (1 : Int32)).toNatClampNeg)]) (rest := []) (b := a 0) C hK 1 (c_M_noPeg l D cs a μ ((μ.1 7) (((5 : Int32) * x1) + (1 : Int32)).toNatClampNeg) r8 hr8) s_M_noPeg kw_183 0 rfl rfl rfl ⟨Nat.le_of_ble_eq_true rfl, Nat.le_of_ble_eq_true rfl⟩ ⟨rfl, rfl⟩ d_M_isTold_230 rfl rfl (Nat.le_of_ble_eq_true rfl) ?_
  refine g_if_ne (pc1 := 236) C 249 d_M_isTold_233 rfl (by decide) (fun c1 => ?_) (fun c1 => ?_)
  · replace hF := ite_f hF c1
    refine g_iconst (pc1 := 250) (v := (0 : Int32)) C d_M_isTold_249 rfl ic_0 ?_
    exact g_zret C hr hlk rfl d_M_isTold_250 (fst_of hF) (congrArg (WM a cs) (snd_of hF))
  · replace hF := ite_t hF c1
    refine g_aload_n (pc1 := 237) C d_M_isTold_236 rfl rfl 2 rfl ?_
    refine get_WM_0_field (pc1 := 240) C hK kw_172 d_M_isTold_237 rfl ?_
    refine g_iconst (pc1 := 241) (v := (1 : Int32)) C d_M_isTold_240 rfl ic_1 ?_
    have hg := gd_some hF
    replace hF := hg.2
    refine g_iald (pc1 := 242) C hK 2 (f := (μ.1 2)) rfl hg.1 d_M_isTold_241 rfl ?_
    refine g_iload_n (pc1 := 243) C d_M_isTold_242 rfl rfl 1 rfl ?_
    obtain ⟨r9, hr9, hF⟩ := bnd_some hF
    refine g_callSI (pc1 := 246) (As := [.int ((μ.1 2) (1 : Int32).toNatClampNeg), .int ((μ.1 7) (((5 : Int32) * x1) + (1 : Int32)).toNatClampNeg)]) (rest := []) C 2 (c_M_has l ((μ.1 2) (1 : Int32).toNatClampNeg) ((μ.1 7) (((5 : Int32) * x1) + (1 : Int32)).toNatClampNeg) r9 hr9) s_M_has kw_188 rfl ⟨Nat.le_of_ble_eq_true rfl, Nat.le_of_ble_eq_true rfl⟩ ⟨rfl, rfl⟩ d_M_isTold_243 rfl rfl (Nat.le_of_ble_eq_true rfl) ?_
    refine g_if_ne (pc1 := 249) C 251 d_M_isTold_246 rfl (by decide) (fun c1 => ?_) (fun c1 => ?_)
    · replace hF := ite_f hF c1
      refine g_aload_n (pc1 := 252) C d_M_isTold_251 rfl rfl 2 rfl ?_
      refine get_WM_0_field (pc1 := 255) C hK kw_172 d_M_isTold_252 rfl ?_
      refine g_iconst (pc1 := 256) (v := (1 : Int32)) C d_M_isTold_255 rfl ic_1 ?_
      refine g_dup2 (pc1 := 257) C d_M_isTold_256 rfl rfl rfl ?_
      have hg := gd_some hF
      replace hF := hg.2
      refine g_iald (pc1 := 258) C hK 2 (f := (μ.1 2)) rfl hg.1 d_M_isTold_257 rfl ?_
      refine g_iconst (pc1 := 259) (v := (1 : Int32)) C d_M_isTold_258 rfl ic_1 ?_
      refine g_iload_n (pc1 := 260) C d_M_isTold_259 rfl rfl 1 rfl ?_
      refine g_ishl (pc1 := 261) C d_M_isTold_260 rfl ?_
      refine g_ixor (pc1 := 262) C d_M_isTold_261 rfl ?_
      have hg := gd_some hF
      replace hF := hg.2
      refine g_iast (pc1 := 263) (ws1 := WM a cs (stI μ 2 (1 : Int32).toNatClampNeg (((μ.1 2) (1 : Int32).toNatClampNeg) ^^^ ((1 : Int32) <<< (((μ.1 7) (((5 : Int32) * x1) + (1 : Int32)).toNatClampNeg) &&& 31))))) C hK 2 (f := (μ.1 2)) rfl hg.1 (set_WM_2 _ _ _ _ _) d_M_isTold_262 rfl ?_
      refine g_iconst (pc1 := 264) (v := (1 : Int32)) C d_M_isTold_263 rfl ic_1 ?_
      exact g_zret C hr hlk rfl d_M_isTold_264 (fst_of hF) (congrArg (WM a cs) (snd_of hF))
    · replace hF := ite_t hF c1
      refine g_iconst (pc1 := 250) (v := (0 : Int32)) C d_M_isTold_249 rfl ic_0 ?_
      exact g_zret C hr hlk rfl d_M_isTold_250 (fst_of hF) (congrArg (WM a cs) (snd_of hF))
-- TentPegsModel.read()I
set_option maxHeartbeats 4000000 in
set_option maxRecDepth 100000 in
theorem p_M_read_66 {p : Program} {l : Launch} {e : Env} {s : State} {m : MethodId} {args : Array Value} {below : List Frame} {meth : Method} {c : Code} {D : va_G} {cs : Nat → ClassId} {a : Nat → Nat} {r : Int32} {μ1 : Mem} (C : Cx p s m args c b_M_read 4 "TentPegsModel") (hK : va_K D classes (tys cs) s) (hr : meth.sig.returnType = (some .int)) (hlk : meth.locks = false)  : ∀ (μ : Mem) (x2 : Int32) (x3 : Int32), F_M_read_66  μ x2 x3 = some (r, μ1) → G p l e { frames := 5, cells := 0, slots := 0, locals := 109 } s m args below meth c (MQ below (Qi (AM a) D (WM a cs μ1) r) args s 0 0 (AM a)) D (AM a) 4 (WM a cs μ) 66 [(0, .ref (a 0)), (2, .int x2), (3, .int x3)] [] := by
  refine iter_ind (fun (K66 : Mem → Int32 → Int32 → Option (Int32 × Mem)) => ∀ (μ : Mem) (x2 : Int32) (x3 : Int32), K66 μ x2 x3 = some (r, μ1) → G p l e { frames := 5, cells := 0, slots := 0, locals := 109 } s m args below meth c (MQ below (Qi (AM a) D (WM a cs μ1) r) args s 0 0 (AM a)) D (AM a) 4 (WM a cs μ) 66 [(0, .ref (a 0)), (2, .int x2), (3, .int x3)] []) ?_ ?_ NF
  · intro μ x2 x3 hF
    exact none_no hF
  · intro K66 hK66 μ x2 x3 hF
    unfold S_M_read_66 at hF
    refine g_iload_n (pc1 := 67) C d_M_read_66 rfl rfl 2 rfl ?_
    refine g_bipush (pc1 := 69) (v := (47 : Int32)) C d_M_read_67 rfl bp_47 ?_
    refine g_icmp_ge (pc1 := 72) C 90 d_M_read_69 rfl (by decide) (fun c1 => ?_) (fun c1 => ?_)
    · replace hF := ite_t hF c1
      refine g_sipush (pc1 := 93) (v := (-1000 : Int32)) C d_M_read_90 rfl sp_m1000 ?_
      refine g_iload_n (pc1 := 94) C d_M_read_93 rfl rfl 1 rfl ?_
      refine g_isub (pc1 := 95) C d_M_read_94 rfl ?_
      exact g_iret C hr hlk d_M_read_95 (fst_of hF) (congrArg (WM a cs) (snd_of hF))
    · replace hF := ite_f hF c1
      refine g_aload_n (pc1 := 73) C d_M_read_72 rfl rfl 0 rfl ?_
      refine get_WM_0_field (pc1 := 76) C hK kw_172 d_M_read_73 rfl ?_
      refine g_iload_n (pc1 := 77) C d_M_read_76 rfl rfl 2 rfl ?_
      refine g_aload_n (pc1 := 78) C d_M_read_77 rfl rfl 0 rfl ?_
      refine get_WM_0_aside (pc1 := 81) C hK kw_218 d_M_read_78 rfl ?_
      refine g_iload_n (pc1 := 82) C d_M_read_81 rfl rfl 2 rfl ?_
      have hg := gd_some hF
      replace hF := hg.2
      refine g_iald (pc1 := 83) C hK 3 (f := (μ.1 3)) rfl hg.1 d_M_read_82 rfl ?_
      have hg := gd_some hF
      replace hF := hg.2
      refine g_iast (pc1 := 84) (ws1 := WM a cs (stI μ 2 x3.toNatClampNeg ((μ.1 3) x3.toNatClampNeg))) C hK 2 (f := (μ.1 2)) rfl hg.1 (set_WM_2 _ _ _ _ _) d_M_read_83 rfl ?_
      refine g_iinc (pc1 := 87) (v := (x3 + (1 : Int32))) (L1 := [(3, .int (x3 + (1 : Int32))), (0, .ref (a 0)), (2, .int x2)]) C d_M_read_84 rfl 2 rfl (by rw [ic_1]) (by decide) rfl ?_
      refine g_goto C 66 d_M_read_87 (by decide) ?_
      exact g_sub [1, 2, 0] rfl (hK66 (stI μ 2 x3.toNatClampNeg ((μ.1 3) x3.toNatClampNeg)) x2 (x3 + (1 : Int32)) hF)
set_option maxHeartbeats 4000000 in
set_option maxRecDepth 100000 in
theorem p_M_read_48 {p : Program} {l : Launch} {e : Env} {s : State} {m : MethodId} {args : Array Value} {below : List Frame} {meth : Method} {c : Code} {D : va_G} {cs : Nat → ClassId} {a : Nat → Nat} {r : Int32} {μ1 : Mem} (C : Cx p s m args c b_M_read 4 "TentPegsModel") (hK : va_K D classes (tys cs) s) (hr : meth.sig.returnType = (some .int)) (hlk : meth.locks = false)  : ∀ (μ : Mem) (x2 : Int32), F_M_read_48  μ x2 = some (r, μ1) → G p l e { frames := 5, cells := 0, slots := 0, locals := 109 } s m args below meth c (MQ below (Qi (AM a) D (WM a cs μ1) r) args s 0 0 (AM a)) D (AM a) 4 (WM a cs μ) 48 [(0, .ref (a 0)), (2, .int x2)] [] := by
  refine iter_ind (fun (K48 : Mem → Int32 → Option (Int32 × Mem)) => ∀ (μ : Mem) (x2 : Int32), K48 μ x2 = some (r, μ1) → G p l e { frames := 5, cells := 0, slots := 0, locals := 109 } s m args below meth c (MQ below (Qi (AM a) D (WM a cs μ1) r) args s 0 0 (AM a)) D (AM a) 4 (WM a cs μ) 48 [(0, .ref (a 0)), (2, .int x2)] []) ?_ ?_ NF
  · intro μ x2 hF
    exact none_no hF
  · intro K48 hK48 μ x2 hF
    unfold S_M_read_48 at hF
    refine g_iload_n (pc1 := 49) C d_M_read_48 rfl rfl 1 rfl ?_
    refine g_aload_n (pc1 := 50) C d_M_read_49 rfl rfl 0 rfl ?_
    refine get_WM_0_items (pc1 := 53) C hK (v := (μ.1 0 13)) rfl kw_213 d_M_read_50 rfl ?_
    refine g_icmp_ge (pc1 := 56) C 102 d_M_read_53 rfl (by decide) (fun c1 => ?_) (fun c1 => ?_)
    · replace hF := ite_t hF c1
      refine g_aload_n (pc1 := 103) C d_M_read_102 rfl rfl 0 rfl ?_
      refine get_WM_0_field (pc1 := 106) C hK kw_172 d_M_read_103 rfl ?_
      refine g_iconst (pc1 := 107) (v := (4 : Int32)) C d_M_read_106 rfl ic_4 ?_
      refine g_iconst (pc1 := 108) (v := (0 : Int32)) C d_M_read_107 rfl ic_0 ?_
      have hg := gd_some hF
      replace hF := hg.2
      refine g_iast (pc1 := 109) (ws1 := WM a cs (stI μ 2 (4 : Int32).toNatClampNeg (0 : Int32))) C hK 2 (f := (μ.1 2)) rfl hg.1 (set_WM_2 _ _ _ _ _) d_M_read_108 rfl ?_
      refine g_aload_n (pc1 := 110) C d_M_read_109 rfl rfl 0 rfl ?_
      refine get_WM_0_items (pc1 := 113) C hK (v := (μ.1 0 13)) rfl kw_213 d_M_read_110 rfl ?_
      exact g_iret C hr hlk d_M_read_113 (fst_of hF) (congrArg (WM a cs) (snd_of hF))
    · replace hF := ite_f hF c1
      refine g_aload_n (pc1 := 57) C d_M_read_56 rfl rfl 0 rfl ?_
      refine g_iload_n (pc1 := 58) C d_M_read_57 rfl rfl 1 rfl ?_
      obtain ⟨⟨r1, m1⟩, hm1, hF⟩ := bnd_some hF
      refine g_callVI (pc1 := 61) (ws1 := WM a cs m1) (As := [.int x2]) (rest := []) (b := a 0) C hK 1 (c_M_isTold l D cs a μ x2 r1 m1 hm1) s_M_isTold kw_219 0 rfl rfl rfl ⟨Nat.le_of_ble_eq_true rfl, Nat.le_of_ble_eq_true rfl⟩ ⟨rfl, rfl⟩ d_M_read_58 rfl rfl (Nat.le_of_ble_eq_true rfl) ?_
      refine g_if_ne (pc1 := 64) C 96 d_M_read_61 rfl (by decide) (fun c1 => ?_) (fun c1 => ?_)
      · replace hF := ite_f hF c1
        refine g_iinc (pc1 := 99) (v := (x2 + (1 : Int32))) (L1 := [(2, .int (x2 + (1 : Int32))), (0, .ref (a 0))]) C d_M_read_96 rfl 1 rfl (by rw [ic_1]) (by decide) rfl ?_
        refine g_goto C 48 d_M_read_99 (by decide) ?_
        exact g_sub [1, 0] rfl (hK48 m1 (x2 + (1 : Int32)) hF)
      · replace hF := ite_t hF c1
        refine g_iconst (pc1 := 65) (v := (0 : Int32)) C d_M_read_64 rfl ic_0 ?_
        refine g_istore_n (pc1 := 66) (L1 := [(3, .int (0 : Int32)), (0, .ref (a 0)), (2, .int x2)]) C d_M_read_65 rfl rfl (by decide) rfl ?_
        exact g_sub [1, 2, 0] rfl (p_M_read_66 C hK hr hlk  m1 x2 (0 : Int32) hF)
set_option maxHeartbeats 4000000 in
set_option maxRecDepth 100000 in
theorem p_M_read_22 {p : Program} {l : Launch} {e : Env} {s : State} {m : MethodId} {args : Array Value} {below : List Frame} {meth : Method} {c : Code} {D : va_G} {cs : Nat → ClassId} {a : Nat → Nat} {r : Int32} {μ1 : Mem} (C : Cx p s m args c b_M_read 4 "TentPegsModel") (hK : va_K D classes (tys cs) s) (hr : meth.sig.returnType = (some .int)) (hlk : meth.locks = false)  : ∀ (μ : Mem) (x2 : Int32), F_M_read_22  μ x2 = some (r, μ1) → G p l e { frames := 5, cells := 0, slots := 0, locals := 109 } s m args below meth c (MQ below (Qi (AM a) D (WM a cs μ1) r) args s 0 0 (AM a)) D (AM a) 4 (WM a cs μ) 22 [(0, .ref (a 0)), (2, .int x2)] [] := by
  refine iter_ind (fun (K22 : Mem → Int32 → Option (Int32 × Mem)) => ∀ (μ : Mem) (x2 : Int32), K22 μ x2 = some (r, μ1) → G p l e { frames := 5, cells := 0, slots := 0, locals := 109 } s m args below meth c (MQ below (Qi (AM a) D (WM a cs μ1) r) args s 0 0 (AM a)) D (AM a) 4 (WM a cs μ) 22 [(0, .ref (a 0)), (2, .int x2)] []) ?_ ?_ NF
  · intro μ x2 hF
    exact none_no hF
  · intro K22 hK22 μ x2 hF
    unfold S_M_read_22 at hF
    refine g_iload_n (pc1 := 23) C d_M_read_22 rfl rfl 1 rfl ?_
    refine g_bipush (pc1 := 25) (v := (47 : Int32)) C d_M_read_23 rfl bp_47 ?_
    refine g_icmp_ge (pc1 := 28) C 46 d_M_read_25 rfl (by decide) (fun c1 => ?_) (fun c1 => ?_)
    · replace hF := ite_t hF c1
      refine g_iconst (pc1 := 47) (v := (0 : Int32)) C d_M_read_46 rfl ic_0 ?_
      refine g_istore_n (pc1 := 48) (L1 := [(2, .int (0 : Int32)), (0, .ref (a 0))]) C d_M_read_47 rfl rfl (by decide) rfl ?_
      exact g_sub [1, 0] rfl (p_M_read_48 C hK hr hlk  μ (0 : Int32) hF)
    · replace hF := ite_f hF c1
      refine g_aload_n (pc1 := 29) C d_M_read_28 rfl rfl 0 rfl ?_
      refine get_WM_0_aside (pc1 := 32) C hK kw_218 d_M_read_29 rfl ?_
      refine g_iload_n (pc1 := 33) C d_M_read_32 rfl rfl 1 rfl ?_
      refine g_aload_n (pc1 := 34) C d_M_read_33 rfl rfl 0 rfl ?_
      refine get_WM_0_field (pc1 := 37) C hK kw_172 d_M_read_34 rfl ?_
      refine g_iload_n (pc1 := 38) C d_M_read_37 rfl rfl 1 rfl ?_
      have hg := gd_some hF
      replace hF := hg.2
      refine g_iald (pc1 := 39) C hK 2 (f := (μ.1 2)) rfl hg.1 d_M_read_38 rfl ?_
      have hg := gd_some hF
      replace hF := hg.2
      refine g_iast (pc1 := 40) (ws1 := WM a cs (stI μ 3 x2.toNatClampNeg ((μ.1 2) x2.toNatClampNeg))) C hK 3 (f := (μ.1 3)) rfl hg.1 (set_WM_3 _ _ _ _ _) d_M_read_39 rfl ?_
      refine g_iinc (pc1 := 43) (v := (x2 + (1 : Int32))) (L1 := [(2, .int (x2 + (1 : Int32))), (0, .ref (a 0))]) C d_M_read_40 rfl 1 rfl (by rw [ic_1]) (by decide) rfl ?_
      refine g_goto C 22 d_M_read_43 (by decide) ?_
      exact g_sub [1, 0] rfl (hK22 (stI μ 3 x2.toNatClampNeg ((μ.1 2) x2.toNatClampNeg)) (x2 + (1 : Int32)) hF)
set_option maxHeartbeats 4000000 in
set_option maxRecDepth 100000 in
theorem c_M_read (l : Launch) (D : va_G) (cs : Nat → ClassId) (a : Nat → Nat) (μ : Mem)  (r : Int32) (μ1 : Mem) (hF : F_M_read μ = some (r, μ1)) : MetI l y_M_read b_M_read 4 (some .int) { frames := 5, cells := 0, slots := 0, locals := 109 } D cs (AM a) (WM a cs μ) [.ref (a 0)] r (WM a cs μ1) := by
  refine met_of rfl (by decide +kernel) (Nat.le_of_ble_eq_true rfl) (fun p e s m below meth c C hK hr hlk => ?_)
  unfold F_M_read at hF
  show G p l e { frames := 5, cells := 0, slots := 0, locals := 109 } s m _ below meth c _ D (AM a) 4 (WM a cs μ) 0 [(0, .ref (a 0))] []
  refine g_aload_n (pc1 := 1) C d_M_read_0 rfl rfl 0 rfl ?_
  refine g_iconst (pc1 := 2) (v := (0 : Int32)) C d_M_read_1 rfl ic_0 ?_
  refine put_WM_0_thrown (pc1 := 5) C hK kw_178 d_M_read_2 rfl ?_
  refine g_aload_n (pc1 := 6) C d_M_read_5 rfl rfl 0 rfl ?_
  obtain ⟨⟨r1, m1⟩, hm1, hF⟩ := bnd_some hF
  refine g_callVI (pc1 := 9) (ws1 := WM a cs m1) (As := []) (rest := []) (b := a 0) C hK 0 (c_M_readAll l D cs a (stI μ 0 0 (0 : Int32))  r1 m1 hm1) s_M_readAll kw_217 0 rfl rfl rfl ⟨Nat.le_of_ble_eq_true rfl, Nat.le_of_ble_eq_true rfl⟩ ⟨rfl, rfl⟩ d_M_read_6 rfl rfl (Nat.le_of_ble_eq_true rfl) ?_
  refine g_istore_n (pc1 := 10) (L1 := [(1, .int r1), (0, .ref (a 0))]) C d_M_read_9 rfl rfl (by decide) rfl ?_
  refine g_iload_n (pc1 := 11) C d_M_read_10 rfl rfl 0 rfl ?_
  refine g_iconst (pc1 := 12) (v := (-1 : Int32)) C d_M_read_11 rfl ic_m1 ?_
  refine g_icmp_eq (pc1 := 15) C 20 d_M_read_12 rfl (by decide) (fun c1 => ?_) (fun c1 => ?_)
  · replace hF := ite_t hF c1
    refine g_iconst (pc1 := 21) (v := (0 : Int32)) C d_M_read_20 rfl ic_0 ?_
    refine g_istore_n (pc1 := 22) (L1 := [(2, .int (0 : Int32)), (1, .int r1), (0, .ref (a 0))]) C d_M_read_21 rfl rfl (by decide) rfl ?_
    exact g_sub [2, 0] rfl (p_M_read_22 C hK hr hlk  m1 (0 : Int32) hF)
  · replace hF := ite_f hF c1
    refine g_bipush (pc1 := 17) (v := (-10 : Int32)) C d_M_read_15 rfl bp_m10 ?_
    refine g_iload_n (pc1 := 18) C d_M_read_17 rfl rfl 0 rfl ?_
    refine g_isub (pc1 := 19) C d_M_read_18 rfl ?_
    exact g_iret C hr hlk d_M_read_19 (fst_of hF) (congrArg (WM a cs) (snd_of hF))
-- TentPegsModel.wayOf(I)I
set_option maxHeartbeats 4000000 in
set_option maxRecDepth 100000 in
theorem c_M_wayOf (l : Launch) (D : va_G) (cs : Nat → ClassId) (a : Nat → Nat) (μ : Mem) (x1 : Int32) (r : Int32) (hF : F_M_wayOf μ x1 = some r) : MetI l y_M_wayOf b_M_wayOf 2 (some .int) { frames := 0, cells := 0, slots := 0, locals := 0 } D cs (AM a) (WM a cs μ) [.ref (a 0), .int x1] r (WM a cs μ) := by
  refine met_of rfl (by decide +kernel) (Nat.le_of_ble_eq_true rfl) (fun p e s m below meth c C hK hr hlk => ?_)
  unfold F_M_wayOf at hF
  show G p l e { frames := 0, cells := 0, slots := 0, locals := 0 } s m _ below meth c _ D (AM a) 2 (WM a cs μ) 0 [(0, .ref (a 0)), (1, .int x1)] []
  refine g_bipush (pc1 := 2) (v := (8 : Int32)) C d_M_wayOf_0 rfl bp_8 ?_
  refine g_iload_n (pc1 := 3) C d_M_wayOf_2 rfl rfl 1 rfl ?_
  refine g_imul (pc1 := 4) C d_M_wayOf_3 rfl ?_
  refine g_aload_n (pc1 := 5) C d_M_wayOf_4 rfl rfl 0 rfl ?_
  refine get_WM_0_field (pc1 := 8) C hK kw_172 d_M_wayOf_5 rfl ?_
  refine g_iconst (pc1 := 9) (v := (0 : Int32)) C d_M_wayOf_8 rfl ic_0 ?_
  have hg := gd_some hF
  replace hF := hg.2
  refine g_iald (pc1 := 10) C hK 2 (f := (μ.1 2)) rfl hg.1 d_M_wayOf_9 rfl ?_
  by_cases h0 : ((μ.1 2) (0 : Int32).toNatClampNeg) = 0
  · exact none_no (ite_t hF h0)
  replace hF := ite_f hF h0
  refine g_idiv (pc1 := 11) C d_M_wayOf_10 rfl h0 ?_
  exact g_iret C hr hlk d_M_wayOf_11 (Option.some.inj hF) rfl
-- TentPegsModel.plain(I)I
set_option maxHeartbeats 4000000 in
set_option maxRecDepth 100000 in
theorem c_M_plain (l : Launch) (D : va_G) (cs : Nat → ClassId) (a : Nat → Nat) (μ : Mem) (x1 : Int32) (r : Int32) (hF : F_M_plain μ x1 = some r) : MetI l y_M_plain b_M_plain 2 (some .int) { frames := 0, cells := 0, slots := 0, locals := 0 } D cs (AM a) (WM a cs μ) [.ref (a 0), .int x1] r (WM a cs μ) := by
  refine met_of rfl (by decide +kernel) (Nat.le_of_ble_eq_true rfl) (fun p e s m below meth c C hK hr hlk => ?_)
  unfold F_M_plain at hF
  show G p l e { frames := 0, cells := 0, slots := 0, locals := 0 } s m _ below meth c _ D (AM a) 2 (WM a cs μ) 0 [(0, .ref (a 0)), (1, .int x1)] []
  refine g_aload_n (pc1 := 1) C d_M_plain_0 rfl rfl 0 rfl ?_
  refine get_WM_0_field (pc1 := 4) C hK kw_172 d_M_plain_1 rfl ?_
  refine g_bipush (pc1 := 6) (v := (13 : Int32)) C d_M_plain_4 rfl bp_13 ?_
  refine g_iload_n (pc1 := 7) C d_M_plain_6 rfl rfl 1 rfl ?_
  refine g_iadd (pc1 := 8) C d_M_plain_7 rfl ?_
  have hg := gd_some hF
  replace hF := hg.2
  refine g_iald (pc1 := 9) C hK 2 (f := (μ.1 2)) rfl hg.1 d_M_plain_8 rfl ?_
  refine g_aload_n (pc1 := 10) C d_M_plain_9 rfl rfl 0 rfl ?_
  refine get_WM_0_field (pc1 := 13) C hK kw_172 d_M_plain_10 rfl ?_
  refine g_bipush (pc1 := 15) (v := (21 : Int32)) C d_M_plain_13 rfl bp_21 ?_
  refine g_iload_n (pc1 := 16) C d_M_plain_15 rfl rfl 1 rfl ?_
  refine g_iadd (pc1 := 17) C d_M_plain_16 rfl ?_
  have hg := gd_some hF
  replace hF := hg.2
  refine g_iald (pc1 := 18) C hK 2 (f := (μ.1 2)) rfl hg.1 d_M_plain_17 rfl ?_
  refine g_imul (pc1 := 19) C d_M_plain_18 rfl ?_
  exact g_iret C hr hlk d_M_plain_19 (Option.some.inj hF) rfl
-- TentPegsModel.doubled(I)I
set_option maxHeartbeats 4000000 in
set_option maxRecDepth 100000 in
theorem c_M_doubled (l : Launch) (D : va_G) (cs : Nat → ClassId) (a : Nat → Nat) (μ : Mem) (x1 : Int32) (r : Int32) (hF : F_M_doubled μ x1 = some r) : MetI l y_M_doubled b_M_doubled 2 (some .int) { frames := 1, cells := 0, slots := 0, locals := 21 } D cs (AM a) (WM a cs μ) [.ref (a 0), .int x1] r (WM a cs μ) := by
  refine met_of rfl (by decide +kernel) (Nat.le_of_ble_eq_true rfl) (fun p e s m below meth c C hK hr hlk => ?_)
  unfold F_M_doubled at hF
  show G p l e { frames := 1, cells := 0, slots := 0, locals := 21 } s m _ below meth c _ D (AM a) 2 (WM a cs μ) 0 [(0, .ref (a 0)), (1, .int x1)] []
  refine g_aload_n (pc1 := 1) C d_M_doubled_0 rfl rfl 0 rfl ?_
  refine g_iload_n (pc1 := 2) C d_M_doubled_1 rfl rfl 1 rfl ?_
  obtain ⟨r1, hr1, hF⟩ := bnd_some hF
  refine g_callVI (pc1 := 5) (ws1 := WM a cs μ) (As := [.int x1]) (rest := []) (b := a 0) C hK 1 (c_M_plain l D cs a μ x1 r1 hr1) s_M_plain kw_220 0 rfl rfl rfl ⟨Nat.le_of_ble_eq_true rfl, Nat.le_of_ble_eq_true rfl⟩ ⟨rfl, rfl⟩ d_M_doubled_2 rfl rfl (Nat.le_of_ble_eq_true rfl) ?_
  refine g_aload_n (pc1 := 6) C d_M_doubled_5 rfl rfl 0 rfl ?_
  refine g_iload_n (pc1 := 7) C d_M_doubled_6 rfl rfl 1 rfl ?_
  obtain ⟨r2, hr2, hF⟩ := bnd_some hF
  refine g_callVI (pc1 := 10) (ws1 := WM a cs μ) (As := [.int x1]) (rest := [.int r1]) (b := a 0) C hK 1 (c_M_plain l D cs a μ x1 r2 hr2) s_M_plain kw_220 0 rfl rfl rfl ⟨Nat.le_of_ble_eq_true rfl, Nat.le_of_ble_eq_true rfl⟩ ⟨rfl, rfl⟩ d_M_doubled_7 rfl rfl (Nat.le_of_ble_eq_true rfl) ?_
  refine g_iconst (pc1 := 11) (v := (2 : Int32)) C d_M_doubled_10 rfl ic_2 ?_
  refine g_idiv (pc1 := 12) C d_M_doubled_11 rfl nzi_2 ?_
  refine g_iadd (pc1 := 13) C d_M_doubled_12 rfl ?_
  exact g_iret C hr hlk d_M_doubled_13 (Option.some.inj hF) rfl
-- TentPegsModel.loosened(I)I
set_option maxHeartbeats 4000000 in
set_option maxRecDepth 100000 in
theorem c_M_loosened (l : Launch) (D : va_G) (cs : Nat → ClassId) (a : Nat → Nat) (μ : Mem) (x1 : Int32) (r : Int32) (hF : F_M_loosened μ x1 = some r) : MetI l y_M_loosened b_M_loosened 3 (some .int) { frames := 1, cells := 0, slots := 0, locals := 21 } D cs (AM a) (WM a cs μ) [.ref (a 0), .int x1] r (WM a cs μ) := by
  refine met_of rfl (by decide +kernel) (Nat.le_of_ble_eq_true rfl) (fun p e s m below meth c C hK hr hlk => ?_)
  unfold F_M_loosened at hF
  show G p l e { frames := 1, cells := 0, slots := 0, locals := 21 } s m _ below meth c _ D (AM a) 3 (WM a cs μ) 0 [(0, .ref (a 0)), (1, .int x1)] []
  refine g_aload_n (pc1 := 1) C d_M_loosened_0 rfl rfl 0 rfl ?_
  refine g_iload_n (pc1 := 2) C d_M_loosened_1 rfl rfl 1 rfl ?_
  obtain ⟨r1, hr1, hF⟩ := bnd_some hF
  refine g_callVI (pc1 := 5) (ws1 := WM a cs μ) (As := [.int x1]) (rest := []) (b := a 0) C hK 1 (c_M_plain l D cs a μ x1 r1 hr1) s_M_plain kw_220 0 rfl rfl rfl ⟨Nat.le_of_ble_eq_true rfl, Nat.le_of_ble_eq_true rfl⟩ ⟨rfl, rfl⟩ d_M_loosened_2 rfl rfl (Nat.le_of_ble_eq_true rfl) ?_
  refine g_iconst (pc1 := 6) (v := (2 : Int32)) C d_M_loosened_5 rfl ic_2 ?_
  refine g_aload_n (pc1 := 7) C d_M_loosened_6 rfl rfl 0 rfl ?_
  refine get_WM_0_field (pc1 := 10) C hK kw_172 d_M_loosened_7 rfl ?_
  refine g_iconst (pc1 := 11) (v := (2 : Int32)) C d_M_loosened_10 rfl ic_2 ?_
  have hg := gd_some hF
  replace hF := hg.2
  refine g_iald (pc1 := 12) C hK 2 (f := (μ.1 2)) rfl hg.1 d_M_loosened_11 rfl ?_
  refine g_imul (pc1 := 13) C d_M_loosened_12 rfl ?_
  refine g_isub (pc1 := 14) C d_M_loosened_13 rfl ?_
  refine g_istore_n (pc1 := 15) (L1 := [(2, .int (r1 - ((2 : Int32) * ((μ.1 2) (2 : Int32).toNatClampNeg)))), (0, .ref (a 0)), (1, .int x1)]) C d_M_loosened_14 rfl rfl (by decide) rfl ?_
  refine g_iload_n (pc1 := 16) C d_M_loosened_15 rfl rfl 0 rfl ?_
  refine g_if_ge (pc1 := 19) C 23 d_M_loosened_16 rfl (by decide) (fun c1 => ?_) (fun c1 => ?_)
  · replace hF := ite_t hF c1
    refine g_iload_n (pc1 := 24) C d_M_loosened_23 rfl rfl 0 rfl ?_
    exact g_iret C hr hlk d_M_loosened_24 (Option.some.inj hF) rfl
  · replace hF := ite_f hF c1
    refine g_iconst (pc1 := 20) (v := (0 : Int32)) C d_M_loosened_19 rfl ic_0 ?_
    refine g_goto C 24 d_M_loosened_20 (by decide) ?_
    exact g_iret C hr hlk d_M_loosened_24 (Option.some.inj hF) rfl
-- TentPegsModel.holds(II)I
set_option maxHeartbeats 4000000 in
set_option maxRecDepth 100000 in
theorem p_M_holds_103 {p : Program} {l : Launch} {e : Env} {s : State} {m : MethodId} {args : Array Value} {below : List Frame} {meth : Method} {c : Code} {D : va_G} {cs : Nat → ClassId} {a : Nat → Nat} {μ : Mem} {r : Int32} (C : Cx p s m args c b_M_holds 4 "TentPegsModel") (hK : va_K D classes (tys cs) s) (hr : meth.sig.returnType = (some .int)) (hlk : meth.locks = false)  (x1 : Int32) (x2 : Int32) (x3 : Int32) (s0 : Int32) (s1 : Int32) (hF : F_M_holds_103  μ x1 x2 x3 s0 s1 = some r) : G p l e { frames := 2, cells := 0, slots := 0, locals := 43 } s m args below meth c (MQ below (Qi (AM a) D (WM a cs μ) r) args s 0 0 (AM a)) D (AM a) 4 (WM a cs μ) 103 [(1, .int x1), (2, .int x2), (3, .int x3)] [.int s0, .int s1] := by
  unfold F_M_holds_103 at hF
  refine g_iadd (pc1 := 104) C d_M_holds_103 rfl ?_
  refine g_iload_n (pc1 := 105) C d_M_holds_104 rfl rfl 1 rfl ?_
  refine g_iload_n (pc1 := 106) C d_M_holds_105 rfl rfl 0 rfl ?_
  refine g_iconst (pc1 := 107) (v := (1 : Int32)) C d_M_holds_106 rfl ic_1 ?_
  refine g_iadd (pc1 := 108) C d_M_holds_107 rfl ?_
  refine g_iload_n (pc1 := 109) C d_M_holds_108 rfl rfl 2 rfl ?_
  by_cases h0 : x3 = 0
  · exact none_no (ite_t hF h0)
  replace hF := ite_f hF h0
  refine g_irem (pc1 := 110) C d_M_holds_109 rfl h0 ?_
  obtain ⟨r1, hr1, hF⟩ := bnd_some hF
  refine g_callSI (pc1 := 113) (As := [.int x2, .int ((x1 + (1 : Int32)) - (x1 + (1 : Int32)) / x3 * x3)]) (rest := [.int (s1 + s0)]) C 2 (c_M_has l x2 ((x1 + (1 : Int32)) - (x1 + (1 : Int32)) / x3 * x3) r1 hr1) s_M_has kw_188 rfl ⟨Nat.le_of_ble_eq_true rfl, Nat.le_of_ble_eq_true rfl⟩ ⟨rfl, rfl⟩ d_M_holds_110 rfl rfl (Nat.le_of_ble_eq_true rfl) ?_
  refine g_if_eq (pc1 := 116) C 120 d_M_holds_113 rfl (by decide) (fun c1 => ?_) (fun c1 => ?_)
  · replace hF := ite_t hF c1
    refine g_iconst (pc1 := 121) (v := (0 : Int32)) C d_M_holds_120 rfl ic_0 ?_
    refine g_iadd (pc1 := 122) C d_M_holds_121 rfl ?_
    exact g_iret C hr hlk d_M_holds_122 (Option.some.inj hF) rfl
  · replace hF := ite_f hF c1
    refine g_iconst (pc1 := 117) (v := (3 : Int32)) C d_M_holds_116 rfl ic_3 ?_
    refine g_goto C 121 d_M_holds_117 (by decide) ?_
    refine g_iadd (pc1 := 122) C d_M_holds_121 rfl ?_
    exact g_iret C hr hlk d_M_holds_122 (Option.some.inj hF) rfl
set_option maxHeartbeats 4000000 in
set_option maxRecDepth 100000 in
theorem c_M_holds (l : Launch) (D : va_G) (cs : Nat → ClassId) (a : Nat → Nat) (μ : Mem) (x1 : Int32) (x2 : Int32) (r : Int32) (hF : F_M_holds μ x1 x2 = some r) : MetI l y_M_holds b_M_holds 4 (some .int) { frames := 2, cells := 0, slots := 0, locals := 43 } D cs (AM a) (WM a cs μ) [.ref (a 0), .int x1, .int x2] r (WM a cs μ) := by
  refine met_of rfl (by decide +kernel) (Nat.le_of_ble_eq_true rfl) (fun p e s m below meth c C hK hr hlk => ?_)
  unfold F_M_holds at hF
  show G p l e { frames := 2, cells := 0, slots := 0, locals := 43 } s m _ below meth c _ D (AM a) 4 (WM a cs μ) 0 [(0, .ref (a 0)), (1, .int x1), (2, .int x2)] []
  refine g_aload_n (pc1 := 1) C d_M_holds_0 rfl rfl 0 rfl ?_
  refine get_WM_0_field (pc1 := 4) C hK kw_172 d_M_holds_1 rfl ?_
  refine g_iconst (pc1 := 5) (v := (0 : Int32)) C d_M_holds_4 rfl ic_0 ?_
  have hg := gd_some hF
  replace hF := hg.2
  refine g_iald (pc1 := 6) C hK 2 (f := (μ.1 2)) rfl hg.1 d_M_holds_5 rfl ?_
  refine g_istore_n (pc1 := 7) (L1 := [(3, .int ((μ.1 2) (0 : Int32).toNatClampNeg)), (0, .ref (a 0)), (1, .int x1), (2, .int x2)]) C d_M_holds_6 rfl rfl (by decide) rfl ?_
  refine g_aload_n (pc1 := 8) C d_M_holds_7 rfl rfl 1 rfl ?_
  refine get_WM_0_field (pc1 := 11) C hK kw_172 d_M_holds_8 rfl ?_
  refine g_iconst (pc1 := 12) (v := (5 : Int32)) C d_M_holds_11 rfl ic_5 ?_
  refine g_iload_n (pc1 := 13) C d_M_holds_12 rfl rfl 2 rfl ?_
  refine g_iadd (pc1 := 14) C d_M_holds_13 rfl ?_
  have hg := gd_some hF
  replace hF := hg.2
  refine g_iald (pc1 := 15) C hK 2 (f := (μ.1 2)) rfl hg.1 d_M_holds_14 rfl ?_
  by_cases h0 : ((μ.1 2) ((5 : Int32) + x1).toNatClampNeg) = (1 : Int32)
  · replace hF := ite_t hF h0
    refine g_tblIn C 48 d_M_holds_15 1 (by rw [h0]; exact ti_1) (by decide) (by decide) rfl (by decide) ?_
    refine g_aload_n (pc1 := 49) C d_M_holds_48 rfl rfl 1 rfl ?_
    refine g_iload_n (pc1 := 50) C d_M_holds_49 rfl rfl 2 rfl ?_
    obtain ⟨r1, hr1, hF⟩ := bnd_some hF
    refine g_callVI (pc1 := 53) (ws1 := WM a cs μ) (As := [.int x1]) (rest := []) (b := a 0) C hK 1 (c_M_doubled l D cs a μ x1 r1 hr1) s_M_doubled kw_221 0 rfl rfl rfl ⟨Nat.le_of_ble_eq_true rfl, Nat.le_of_ble_eq_true rfl⟩ ⟨rfl, rfl⟩ d_M_holds_50 rfl rfl (Nat.le_of_ble_eq_true rfl) ?_
    exact g_iret C hr hlk d_M_holds_53 (Option.some.inj hF) rfl
  replace hF := ite_f hF h0
  by_cases h1 : ((μ.1 2) ((5 : Int32) + x1).toNatClampNeg) = (2 : Int32)
  · replace hF := ite_t hF h1
    refine g_tblIn C 54 d_M_holds_15 2 (by rw [h1]; exact ti_2) (by decide) (by decide) rfl (by decide) ?_
    refine g_aload_n (pc1 := 55) C d_M_holds_54 rfl rfl 1 rfl ?_
    refine g_iload_n (pc1 := 56) C d_M_holds_55 rfl rfl 2 rfl ?_
    obtain ⟨r2, hr2, hF⟩ := bnd_some hF
    refine g_callVI (pc1 := 59) (ws1 := WM a cs μ) (As := [.int x1]) (rest := []) (b := a 0) C hK 1 (c_M_plain l D cs a μ x1 r2 hr2) s_M_plain kw_220 0 rfl rfl rfl ⟨Nat.le_of_ble_eq_true rfl, Nat.le_of_ble_eq_true rfl⟩ ⟨rfl, rfl⟩ d_M_holds_56 rfl rfl (Nat.le_of_ble_eq_true rfl) ?_
    refine g_bipush (pc1 := 61) (v := (10 : Int32)) C d_M_holds_59 rfl bp_10 ?_
    refine g_iadd (pc1 := 62) C d_M_holds_61 rfl ?_
    exact g_iret C hr hlk d_M_holds_62 (Option.some.inj hF) rfl
  replace hF := ite_f hF h1
  by_cases h2 : ((μ.1 2) ((5 : Int32) + x1).toNatClampNeg) = (3 : Int32)
  · replace hF := ite_t hF h2
    refine g_tblIn C 63 d_M_holds_15 3 (by rw [h2]; exact ti_3) (by decide) (by decide) rfl (by decide) ?_
    refine g_aload_n (pc1 := 64) C d_M_holds_63 rfl rfl 1 rfl ?_
    refine g_iload_n (pc1 := 65) C d_M_holds_64 rfl rfl 2 rfl ?_
    obtain ⟨r3, hr3, hF⟩ := bnd_some hF
    refine g_callVI (pc1 := 68) (ws1 := WM a cs μ) (As := [.int x1]) (rest := []) (b := a 0) C hK 1 (c_M_loosened l D cs a μ x1 r3 hr3) s_M_loosened kw_222 0 rfl rfl rfl ⟨Nat.le_of_ble_eq_true rfl, Nat.le_of_ble_eq_true rfl⟩ ⟨rfl, rfl⟩ d_M_holds_65 rfl rfl (Nat.le_of_ble_eq_true rfl) ?_
    exact g_iret C hr hlk d_M_holds_68 (Option.some.inj hF) rfl
  replace hF := ite_f hF h2
  by_cases h3 : ((μ.1 2) ((5 : Int32) + x1).toNatClampNeg) = (4 : Int32)
  · replace hF := ite_t hF h3
    refine g_tblIn C 69 d_M_holds_15 4 (by rw [h3]; exact ti_4) (by decide) (by decide) rfl (by decide) ?_
    refine g_aload_n (pc1 := 70) C d_M_holds_69 rfl rfl 1 rfl ?_
    refine g_iload_n (pc1 := 71) C d_M_holds_70 rfl rfl 2 rfl ?_
    obtain ⟨r4, hr4, hF⟩ := bnd_some hF
    refine g_callVI (pc1 := 74) (ws1 := WM a cs μ) (As := [.int x1]) (rest := []) (b := a 0) C hK 1 (c_M_loosened l D cs a μ x1 r4 hr4) s_M_loosened kw_222 0 rfl rfl rfl ⟨Nat.le_of_ble_eq_true rfl, Nat.le_of_ble_eq_true rfl⟩ ⟨rfl, rfl⟩ d_M_holds_71 rfl rfl (Nat.le_of_ble_eq_true rfl) ?_
    refine g_iconst (pc1 := 75) (v := (1 : Int32)) C d_M_holds_74 rfl ic_1 ?_
    refine g_iadd (pc1 := 76) C d_M_holds_75 rfl ?_
    refine g_iconst (pc1 := 77) (v := (2 : Int32)) C d_M_holds_76 rfl ic_2 ?_
    refine g_idiv (pc1 := 78) C d_M_holds_77 rfl nzi_2 ?_
    exact g_iret C hr hlk d_M_holds_78 (Option.some.inj hF) rfl
  replace hF := ite_f hF h3
  by_cases h4 : ((μ.1 2) ((5 : Int32) + x1).toNatClampNeg) = (5 : Int32)
  · replace hF := ite_t hF h4
    refine g_tblIn C 79 d_M_holds_15 5 (by rw [h4]; exact ti_5) (by decide) (by decide) rfl (by decide) ?_
    refine g_aload_n (pc1 := 80) C d_M_holds_79 rfl rfl 1 rfl ?_
    refine g_iload_n (pc1 := 81) C d_M_holds_80 rfl rfl 2 rfl ?_
    obtain ⟨r5, hr5, hF⟩ := bnd_some hF
    refine g_callVI (pc1 := 84) (ws1 := WM a cs μ) (As := [.int x1]) (rest := []) (b := a 0) C hK 1 (c_M_doubled l D cs a μ x1 r5 hr5) s_M_doubled kw_221 0 rfl rfl rfl ⟨Nat.le_of_ble_eq_true rfl, Nat.le_of_ble_eq_true rfl⟩ ⟨rfl, rfl⟩ d_M_holds_81 rfl rfl (Nat.le_of_ble_eq_true rfl) ?_
    refine g_iload_n (pc1 := 85) C d_M_holds_84 rfl rfl 3 rfl ?_
    refine g_iload_n (pc1 := 86) C d_M_holds_85 rfl rfl 2 rfl ?_
    refine g_iload_n (pc1 := 87) C d_M_holds_86 rfl rfl 0 rfl ?_
    refine g_iadd (pc1 := 88) C d_M_holds_87 rfl ?_
    refine g_iconst (pc1 := 89) (v := (1 : Int32)) C d_M_holds_88 rfl ic_1 ?_
    refine g_isub (pc1 := 90) C d_M_holds_89 rfl ?_
    refine g_iload_n (pc1 := 91) C d_M_holds_90 rfl rfl 0 rfl ?_
    by_cases h0 : ((μ.1 2) (0 : Int32).toNatClampNeg) = 0
    · exact none_no (ite_t hF h0)
    replace hF := ite_f hF h0
    refine g_irem (pc1 := 92) C d_M_holds_91 rfl h0 ?_
    obtain ⟨r6, hr6, hF⟩ := bnd_some hF
    refine g_callSI (pc1 := 95) (As := [.int x2, .int (((x1 + ((μ.1 2) (0 : Int32).toNatClampNeg)) - (1 : Int32)) - ((x1 + ((μ.1 2) (0 : Int32).toNatClampNeg)) - (1 : Int32)) / ((μ.1 2) (0 : Int32).toNatClampNeg) * ((μ.1 2) (0 : Int32).toNatClampNeg))]) (rest := [.int r5]) C 2 (c_M_has l x2 (((x1 + ((μ.1 2) (0 : Int32).toNatClampNeg)) - (1 : Int32)) - ((x1 + ((μ.1 2) (0 : Int32).toNatClampNeg)) - (1 : Int32)) / ((μ.1 2) (0 : Int32).toNatClampNeg) * ((μ.1 2) (0 : Int32).toNatClampNeg)) r6 hr6) s_M_has kw_188 rfl ⟨Nat.le_of_ble_eq_true rfl, Nat.le_of_ble_eq_true rfl⟩ ⟨rfl, rfl⟩ d_M_holds_92 rfl rfl (Nat.le_of_ble_eq_true rfl) ?_
    refine g_if_eq (pc1 := 98) C 102 d_M_holds_95 rfl (by decide) (fun c1 => ?_) (fun c1 => ?_)
    · replace hF := ite_t hF c1
      refine g_iconst (pc1 := 103) (v := (0 : Int32)) C d_M_holds_102 rfl ic_0 ?_
      exact g_sub [2, 3, 0] rfl (p_M_holds_103 C hK hr hlk  x1 x2 ((μ.1 2) (0 : Int32).toNatClampNeg) (0 : Int32) r5 hF)
    · replace hF := ite_f hF c1
      refine g_iconst (pc1 := 99) (v := (3 : Int32)) C d_M_holds_98 rfl ic_3 ?_
      refine g_goto C 103 d_M_holds_99 (by decide) ?_
      exact g_sub [2, 3, 0] rfl (p_M_holds_103 C hK hr hlk  x1 x2 ((μ.1 2) (0 : Int32).toNatClampNeg) (3 : Int32) r5 hF)
  replace hF := ite_f hF h4
  have q0 := ne_toInt ti_1 h0
  have q1 := ne_toInt ti_2 h1
  have q2 := ne_toInt ti_3 h2
  have q3 := ne_toInt ti_4 h3
  have q4 := ne_toInt ti_5 h4
  refine g_tblOut C 123 d_M_holds_15 (by omega) (by decide) ?_
  refine g_aload_n (pc1 := 124) C d_M_holds_123 rfl rfl 1 rfl ?_
  refine g_iload_n (pc1 := 125) C d_M_holds_124 rfl rfl 2 rfl ?_
  obtain ⟨r7, hr7, hF⟩ := bnd_some hF
  refine g_callVI (pc1 := 128) (ws1 := WM a cs μ) (As := [.int x1]) (rest := []) (b := a 0) C hK 1 (c_M_plain l D cs a μ x1 r7 hr7) s_M_plain kw_220 0 rfl rfl rfl ⟨Nat.le_of_ble_eq_true rfl, Nat.le_of_ble_eq_true rfl⟩ ⟨rfl, rfl⟩ d_M_holds_125 rfl rfl (Nat.le_of_ble_eq_true rfl) ?_
  exact g_iret C hr hlk d_M_holds_128 (Option.some.inj hF) rfl
-- TentPegsModel.strengthBy(III)I
set_option maxHeartbeats 4000000 in
set_option maxRecDepth 100000 in
theorem p_M_strengthBy_32 {p : Program} {l : Launch} {e : Env} {s : State} {m : MethodId} {args : Array Value} {below : List Frame} {meth : Method} {c : Code} {r : Int32} (C : Cx p s m args c b_M_strengthBy 4 "TentPegsModel") (hr : meth.sig.returnType = (some .int)) (hlk : meth.locks = false)  (x0 : Int32) (x1 : Int32) (x2 : Int32) (s0 : Int32) (hF : F_M_strengthBy_32  x0 x1 x2 s0 = some r) : G p l e { frames := 1, cells := 0, slots := 0, locals := 21 } s m args below meth c (MQ below (Qi (fun _ => False) (fun _ => 0, fun _ _ => 0) [] r) args s 0 0 (fun _ => False)) (fun _ => 0, fun _ _ => 0) (fun _ => False) 4 [] 32 [(0, .int x0), (1, .int x1), (2, .int x2)] [.int s0] := by
  unfold F_M_strengthBy_32 at hF
  refine g_istore_n (pc1 := 33) (L1 := [(3, .int s0), (0, .int x0), (1, .int x1), (2, .int x2)]) C d_M_strengthBy_32 rfl rfl (by decide) rfl ?_
  refine g_iload_n (pc1 := 34) C d_M_strengthBy_33 rfl rfl 1 rfl ?_
  refine g_iload_n (pc1 := 35) C d_M_strengthBy_34 rfl rfl 2 rfl ?_
  obtain ⟨r1, hr1, hF⟩ := bnd_some hF
  refine g_callSI (pc1 := 38) (As := [.int x0, .int x1]) (rest := []) C 2 (c_M_has l x0 x1 r1 hr1) s_M_has kw_188 rfl ⟨Nat.le_of_ble_eq_true rfl, Nat.le_of_ble_eq_true rfl⟩ ⟨rfl, rfl⟩ d_M_strengthBy_35 rfl rfl (Nat.le_of_ble_eq_true rfl) ?_
  refine g_if_eq (pc1 := 41) C 47 d_M_strengthBy_38 rfl (by decide) (fun c1 => ?_) (fun c1 => ?_)
  · replace hF := ite_t hF c1
    refine g_iload_n (pc1 := 48) C d_M_strengthBy_47 rfl rfl 0 rfl ?_
    refine g_if_eq (pc1 := 51) C 59 d_M_strengthBy_48 rfl (by decide) (fun c1 => ?_) (fun c1 => ?_)
    · replace hF := ite_t hF c1
      refine g_iload_n (pc1 := 60) C d_M_strengthBy_59 rfl rfl 3 rfl ?_
      exact g_iret C hr hlk d_M_strengthBy_60 (Option.some.inj hF) rfl
    · replace hF := ite_f hF c1
      refine g_iload_n (pc1 := 52) C d_M_strengthBy_51 rfl rfl 3 rfl ?_
      refine g_iload_n (pc1 := 53) C d_M_strengthBy_52 rfl rfl 3 rfl ?_
      refine g_iconst (pc1 := 54) (v := (4 : Int32)) C d_M_strengthBy_53 rfl ic_4 ?_
      refine g_idiv (pc1 := 55) C d_M_strengthBy_54 rfl nzi_4 ?_
      refine g_iadd (pc1 := 56) C d_M_strengthBy_55 rfl ?_
      refine g_goto C 60 d_M_strengthBy_56 (by decide) ?_
      exact g_iret C hr hlk d_M_strengthBy_60 (Option.some.inj hF) rfl
  · replace hF := ite_f hF c1
    refine g_iload_n (pc1 := 42) C d_M_strengthBy_41 rfl rfl 3 rfl ?_
    refine g_iconst (pc1 := 43) (v := (2 : Int32)) C d_M_strengthBy_42 rfl ic_2 ?_
    refine g_idiv (pc1 := 44) C d_M_strengthBy_43 rfl nzi_2 ?_
    refine g_goto C 60 d_M_strengthBy_44 (by decide) ?_
    exact g_iret C hr hlk d_M_strengthBy_60 (Option.some.inj hF) rfl
set_option maxHeartbeats 4000000 in
set_option maxRecDepth 100000 in
theorem p_M_strengthBy_27 {p : Program} {l : Launch} {e : Env} {s : State} {m : MethodId} {args : Array Value} {below : List Frame} {meth : Method} {c : Code} {r : Int32} (C : Cx p s m args c b_M_strengthBy 4 "TentPegsModel") (hr : meth.sig.returnType = (some .int)) (hlk : meth.locks = false)  (x0 : Int32) (x1 : Int32) (x2 : Int32) (hF : F_M_strengthBy_27  x0 x1 x2 = some r) : G p l e { frames := 1, cells := 0, slots := 0, locals := 21 } s m args below meth c (MQ below (Qi (fun _ => False) (fun _ => 0, fun _ _ => 0) [] r) args s 0 0 (fun _ => False)) (fun _ => 0, fun _ _ => 0) (fun _ => False) 4 [] 27 [(0, .int x0), (1, .int x1), (2, .int x2)] [] := by
  unfold F_M_strengthBy_27 at hF
  refine g_iconst (pc1 := 28) (v := (1 : Int32)) C d_M_strengthBy_27 rfl ic_1 ?_
  refine g_goto C 32 d_M_strengthBy_28 (by decide) ?_
  exact g_sub [0, 1, 2] rfl (p_M_strengthBy_32 C hr hlk  x0 x1 x2 (1 : Int32) hF)
set_option maxHeartbeats 4000000 in
set_option maxRecDepth 100000 in
theorem c_M_strengthBy (l : Launch) (x0 : Int32) (x1 : Int32) (x2 : Int32) (r : Int32) (hF : F_M_strengthBy x0 x1 x2 = some r) : SetI l y_M_strengthBy b_M_strengthBy 4 (some .int) { frames := 1, cells := 0, slots := 0, locals := 21 } [.int x0, .int x1, .int x2] r := by
  refine met_ofS rfl (by decide +kernel) (Nat.le_of_ble_eq_true rfl) (fun p e s m below meth c C hr hlk => ?_)
  unfold F_M_strengthBy at hF
  show G p l e { frames := 1, cells := 0, slots := 0, locals := 21 } s m _ below meth c _ (fun _ => 0, fun _ _ => 0) (fun _ => False) 4 [] 0 [(0, .int x0), (1, .int x1), (2, .int x2)] []
  refine g_iload_n (pc1 := 1) C d_M_strengthBy_0 rfl rfl 0 rfl ?_
  refine g_iload_n (pc1 := 2) C d_M_strengthBy_1 rfl rfl 1 rfl ?_
  refine g_iconst (pc1 := 3) (v := (1 : Int32)) C d_M_strengthBy_2 rfl ic_1 ?_
  refine g_iadd (pc1 := 4) C d_M_strengthBy_3 rfl ?_
  refine g_bipush (pc1 := 6) (v := (8 : Int32)) C d_M_strengthBy_4 rfl bp_8 ?_
  refine g_irem (pc1 := 7) C d_M_strengthBy_6 rfl nzi_8 ?_
  obtain ⟨r1, hr1, hF⟩ := bnd_some hF
  refine g_callSI (pc1 := 10) (As := [.int x0, .int ((x1 + (1 : Int32)) - (x1 + (1 : Int32)) / (8 : Int32) * (8 : Int32))]) (rest := []) C 2 (c_M_has l x0 ((x1 + (1 : Int32)) - (x1 + (1 : Int32)) / (8 : Int32) * (8 : Int32)) r1 hr1) s_M_has kw_188 rfl ⟨Nat.le_of_ble_eq_true rfl, Nat.le_of_ble_eq_true rfl⟩ ⟨rfl, rfl⟩ d_M_strengthBy_7 rfl rfl (Nat.le_of_ble_eq_true rfl) ?_
  refine g_if_ne (pc1 := 13) C 27 d_M_strengthBy_10 rfl (by decide) (fun c1 => ?_) (fun c1 => ?_)
  · replace hF := ite_f hF c1
    exact g_sub [0, 1, 2] rfl (p_M_strengthBy_27 C hr hlk  x0 x1 x2 hF)
  · replace hF := ite_t hF c1
    refine g_iload_n (pc1 := 14) C d_M_strengthBy_13 rfl rfl 0 rfl ?_
    refine g_iload_n (pc1 := 15) C d_M_strengthBy_14 rfl rfl 1 rfl ?_
    refine g_bipush (pc1 := 17) (v := (7 : Int32)) C d_M_strengthBy_15 rfl bp_7 ?_
    refine g_iadd (pc1 := 18) C d_M_strengthBy_17 rfl ?_
    refine g_bipush (pc1 := 20) (v := (8 : Int32)) C d_M_strengthBy_18 rfl bp_8 ?_
    refine g_irem (pc1 := 21) C d_M_strengthBy_20 rfl nzi_8 ?_
    obtain ⟨r2, hr2, hF⟩ := bnd_some hF
    refine g_callSI (pc1 := 24) (As := [.int x0, .int ((x1 + (7 : Int32)) - (x1 + (7 : Int32)) / (8 : Int32) * (8 : Int32))]) (rest := []) C 2 (c_M_has l x0 ((x1 + (7 : Int32)) - (x1 + (7 : Int32)) / (8 : Int32) * (8 : Int32)) r2 hr2) s_M_has kw_188 rfl ⟨Nat.le_of_ble_eq_true rfl, Nat.le_of_ble_eq_true rfl⟩ ⟨rfl, rfl⟩ d_M_strengthBy_21 rfl rfl (Nat.le_of_ble_eq_true rfl) ?_
    refine g_if_eq (pc1 := 27) C 31 d_M_strengthBy_24 rfl (by decide) (fun c1 => ?_) (fun c1 => ?_)
    · replace hF := ite_t hF c1
      refine g_iconst (pc1 := 32) (v := (0 : Int32)) C d_M_strengthBy_31 rfl ic_0 ?_
      exact g_sub [0, 1, 2] rfl (p_M_strengthBy_32 C hr hlk  x0 x1 x2 (0 : Int32) hF)
    · replace hF := ite_f hF c1
      exact g_sub [0, 1, 2] rfl (p_M_strengthBy_27 C hr hlk  x0 x1 x2 hF)
-- TentPegsModel.pullOf(IIIII)I
set_option maxHeartbeats 4000000 in
set_option maxRecDepth 100000 in
theorem p_M_pullOf_34 {p : Program} {l : Launch} {e : Env} {s : State} {m : MethodId} {args : Array Value} {below : List Frame} {meth : Method} {c : Code} {D : va_G} {cs : Nat → ClassId} {a : Nat → Nat} {μ : Mem} {r : Int32} (C : Cx p s m args c b_M_pullOf 7 "TentPegsModel") (hK : va_K D classes (tys cs) s) (hr : meth.sig.returnType = (some .int)) (hlk : meth.locks = false)  (x2 : Int32) (x3 : Int32) (x5 : Int32) (s0 : Int32) (hF : F_M_pullOf_34  μ x2 x3 x5 s0 = some r) : G p l e { frames := 2, cells := 0, slots := 0, locals := 44 } s m args below meth c (MQ below (Qi (AM a) D (WM a cs μ) r) args s 0 0 (AM a)) D (AM a) 7 (WM a cs μ) 34 [(2, .int x2), (3, .int x3), (5, .int x5)] [.int s0] := by
  unfold F_M_pullOf_34 at hF
  refine g_istore (pc1 := 36) (L1 := [(6, .int s0), (2, .int x2), (3, .int x3), (5, .int x5)]) C d_M_pullOf_34 rfl (by decide) rfl ?_
  refine g_iload (pc1 := 38) C d_M_pullOf_36 rfl 3 rfl ?_
  refine g_iload_n (pc1 := 39) C d_M_pullOf_38 rfl rfl 1 rfl ?_
  refine g_iload_n (pc1 := 40) C d_M_pullOf_39 rfl rfl 2 rfl ?_
  obtain ⟨r1, hr1, hF⟩ := bnd_some hF
  refine g_callSI (pc1 := 43) (As := [.int x5, .int x2, .int x3]) (rest := []) C 3 (c_M_strengthBy l x5 x2 x3 r1 hr1) s_M_strengthBy kw_224 rfl ⟨Nat.le_of_ble_eq_true rfl, Nat.le_of_ble_eq_true rfl⟩ ⟨rfl, rfl⟩ d_M_pullOf_40 rfl rfl (Nat.le_of_ble_eq_true rfl) ?_
  refine g_iconst (pc1 := 44) (v := (4 : Int32)) C d_M_pullOf_43 rfl ic_4 ?_
  refine g_iload (pc1 := 46) C d_M_pullOf_44 rfl 0 rfl ?_
  refine g_isub (pc1 := 47) C d_M_pullOf_46 rfl ?_
  refine g_imul (pc1 := 48) C d_M_pullOf_47 rfl ?_
  refine g_iconst (pc1 := 49) (v := (4 : Int32)) C d_M_pullOf_48 rfl ic_4 ?_
  refine g_idiv (pc1 := 50) C d_M_pullOf_49 rfl nzi_4 ?_
  exact g_iret C hr hlk d_M_pullOf_50 (Option.some.inj hF) rfl
set_option maxHeartbeats 4000000 in
set_option maxRecDepth 100000 in
theorem c_M_pullOf (l : Launch) (D : va_G) (cs : Nat → ClassId) (a : Nat → Nat) (μ : Mem) (x1 : Int32) (x2 : Int32) (x3 : Int32) (x4 : Int32) (x5 : Int32) (r : Int32) (hF : F_M_pullOf μ x1 x2 x3 x4 x5 = some r) : MetI l y_M_pullOf b_M_pullOf 7 (some .int) { frames := 2, cells := 0, slots := 0, locals := 44 } D cs (AM a) (WM a cs μ) [.ref (a 0), .int x1, .int x2, .int x3, .int x4, .int x5] r (WM a cs μ) := by
  refine met_of rfl (by decide +kernel) (Nat.le_of_ble_eq_true rfl) (fun p e s m below meth c C hK hr hlk => ?_)
  unfold F_M_pullOf at hF
  show G p l e { frames := 2, cells := 0, slots := 0, locals := 44 } s m _ below meth c _ D (AM a) 7 (WM a cs μ) 0 [(0, .ref (a 0)), (1, .int x1), (2, .int x2), (3, .int x3), (4, .int x4), (5, .int x5)] []
  refine g_aload_n (pc1 := 1) C d_M_pullOf_0 rfl rfl 0 rfl ?_
  refine g_iload_n (pc1 := 2) C d_M_pullOf_1 rfl rfl 1 rfl ?_
  obtain ⟨r1, hr1, hF⟩ := bnd_some hF
  refine g_callVI (pc1 := 5) (ws1 := WM a cs μ) (As := [.int x1]) (rest := []) (b := a 0) C hK 1 (c_M_wayOf l D cs a μ x1 r1 hr1) s_M_wayOf kw_223 0 rfl rfl rfl ⟨Nat.le_of_ble_eq_true rfl, Nat.le_of_ble_eq_true rfl⟩ ⟨rfl, rfl⟩ d_M_pullOf_2 rfl rfl (Nat.le_of_ble_eq_true rfl) ?_
  refine g_iload (pc1 := 7) C d_M_pullOf_5 rfl 4 rfl ?_
  refine g_iadd (pc1 := 8) C d_M_pullOf_7 rfl ?_
  refine g_iload_n (pc1 := 9) C d_M_pullOf_8 rfl rfl 2 rfl ?_
  refine g_isub (pc1 := 10) C d_M_pullOf_9 rfl ?_
  refine g_bipush (pc1 := 12) (v := (16 : Int32)) C d_M_pullOf_10 rfl bp_16 ?_
  refine g_iadd (pc1 := 13) C d_M_pullOf_12 rfl ?_
  refine g_bipush (pc1 := 15) (v := (8 : Int32)) C d_M_pullOf_13 rfl bp_8 ?_
  refine g_irem (pc1 := 16) C d_M_pullOf_15 rfl nzi_8 ?_
  refine g_istore (pc1 := 18) (L1 := [(6, .int ((((r1 + x4) - x2) + (16 : Int32)) - (((r1 + x4) - x2) + (16 : Int32)) / (8 : Int32) * (8 : Int32))), (0, .ref (a 0)), (1, .int x1), (2, .int x2), (3, .int x3), (4, .int x4), (5, .int x5)]) C d_M_pullOf_16 rfl (by decide) rfl ?_
  refine g_iload (pc1 := 20) C d_M_pullOf_18 rfl 0 rfl ?_
  refine g_iconst (pc1 := 21) (v := (4 : Int32)) C d_M_pullOf_20 rfl ic_4 ?_
  refine g_icmp_le (pc1 := 24) C 32 d_M_pullOf_21 rfl (by decide) (fun c1 => ?_) (fun c1 => ?_)
  · replace hF := ite_t hF c1
    refine g_iload (pc1 := 34) C d_M_pullOf_32 rfl 0 rfl ?_
    exact g_sub [3, 4, 6] rfl (p_M_pullOf_34 C hK hr hlk  x2 x3 x5 ((((r1 + x4) - x2) + (16 : Int32)) - (((r1 + x4) - x2) + (16 : Int32)) / (8 : Int32) * (8 : Int32)) hF)
  · replace hF := ite_f hF c1
    refine g_bipush (pc1 := 26) (v := (8 : Int32)) C d_M_pullOf_24 rfl bp_8 ?_
    refine g_iload (pc1 := 28) C d_M_pullOf_26 rfl 0 rfl ?_
    refine g_isub (pc1 := 29) C d_M_pullOf_28 rfl ?_
    refine g_goto C 34 d_M_pullOf_29 (by decide) ?_
    exact g_sub [3, 4, 6] rfl (p_M_pullOf_34 C hK hr hlk  x2 x3 x5 ((8 : Int32) - ((((r1 + x4) - x2) + (16 : Int32)) - (((r1 + x4) - x2) + (16 : Int32)) / (8 : Int32) * (8 : Int32))) hF)
-- TentPegsModel.takesNone(IIIII)Z
set_option maxHeartbeats 4000000 in
set_option maxRecDepth 100000 in
theorem p_M_takesNone_6 {p : Program} {l : Launch} {e : Env} {s : State} {m : MethodId} {args : Array Value} {below : List Frame} {meth : Method} {c : Code} {D : va_G} {cs : Nat → ClassId} {a : Nat → Nat} {μ : Mem} {r : Int32} (C : Cx p s m args c b_M_takesNone 8 "TentPegsModel") (hK : va_K D classes (tys cs) s) (hr : meth.sig.returnType = (some .boolean)) (hlk : meth.locks = false)  : ∀ (x1 : Int32) (x2 : Int32) (x3 : Int32) (x4 : Int32) (x5 : Int32) (x6 : Int32) (x7 : Int32), F_M_takesNone_6  μ x1 x2 x3 x4 x5 x6 x7 = some r → G p l e { frames := 3, cells := 0, slots := 0, locals := 70 } s m args below meth c (MQ below (Qi (AM a) D (WM a cs μ) r) args s 0 0 (AM a)) D (AM a) 8 (WM a cs μ) 6 [(0, .ref (a 0)), (1, .int x1), (2, .int x2), (3, .int x3), (4, .int x4), (5, .int x5), (6, .int x6), (7, .int x7)] [] := by
  refine iter_ind (fun (K6 : Mem → Int32 → Int32 → Int32 → Int32 → Int32 → Int32 → Int32 → Option Int32) => ∀ (x1 : Int32) (x2 : Int32) (x3 : Int32) (x4 : Int32) (x5 : Int32) (x6 : Int32) (x7 : Int32), K6 μ x1 x2 x3 x4 x5 x6 x7 = some r → G p l e { frames := 3, cells := 0, slots := 0, locals := 70 } s m args below meth c (MQ below (Qi (AM a) D (WM a cs μ) r) args s 0 0 (AM a)) D (AM a) 8 (WM a cs μ) 6 [(0, .ref (a 0)), (1, .int x1), (2, .int x2), (3, .int x3), (4, .int x4), (5, .int x5), (6, .int x6), (7, .int x7)] []) ?_ ?_ NF
  · intro x1 x2 x3 x4 x5 x6 x7 hF
    exact none_no hF
  · intro K6 hK6 x1 x2 x3 x4 x5 x6 x7 hF
    unfold S_M_takesNone_6 at hF
    refine g_iload (pc1 := 8) C d_M_takesNone_6 rfl 7 rfl ?_
    refine g_aload_n (pc1 := 9) C d_M_takesNone_8 rfl rfl 0 rfl ?_
    refine get_WM_0_field (pc1 := 12) C hK kw_172 d_M_takesNone_9 rfl ?_
    refine g_iconst (pc1 := 13) (v := (0 : Int32)) C d_M_takesNone_12 rfl ic_0 ?_
    have hg := gd_some hF
    replace hF := hg.2
    refine g_iald (pc1 := 14) C hK 2 (f := (μ.1 2)) rfl hg.1 d_M_takesNone_13 rfl ?_
    refine g_icmp_ge (pc1 := 17) C 66 d_M_takesNone_14 rfl (by decide) (fun c1 => ?_) (fun c1 => ?_)
    · replace hF := ite_t hF c1
      refine g_iload (pc1 := 68) C d_M_takesNone_66 rfl 6 rfl ?_
      have hg := gd_some hF
      replace hF := hg.2
      exact g_zret C hr hlk (isZ_n hg.1) d_M_takesNone_68 (Option.some.inj hF) rfl
    · replace hF := ite_f hF c1
      refine g_iload (pc1 := 19) C d_M_takesNone_17 rfl 6 rfl ?_
      refine g_if_eq (pc1 := 22) C 57 d_M_takesNone_19 rfl (by decide) (fun c1 => ?_) (fun c1 => ?_)
      · replace hF := ite_t hF c1
        refine g_iconst (pc1 := 58) (v := (0 : Int32)) C d_M_takesNone_57 rfl ic_0 ?_
        refine g_istore (pc1 := 60) (L1 := [(6, .int (0 : Int32)), (0, .ref (a 0)), (1, .int x1), (2, .int x2), (3, .int x3), (4, .int x4), (5, .int x5), (7, .int x7)]) C d_M_takesNone_58 rfl (by decide) rfl ?_
        refine g_iinc (pc1 := 63) (v := (x7 + (1 : Int32))) (L1 := [(7, .int (x7 + (1 : Int32))), (6, .int (0 : Int32)), (0, .ref (a 0)), (1, .int x1), (2, .int x2), (3, .int x3), (4, .int x4), (5, .int x5)]) C d_M_takesNone_60 rfl 7 rfl (by rw [ic_1]) (by decide) rfl ?_
        refine g_goto C 6 d_M_takesNone_63 (by decide) ?_
        exact g_sub [2, 3, 4, 5, 6, 7, 1, 0] rfl (hK6 x1 x2 x3 x4 x5 (0 : Int32) (x7 + (1 : Int32)) hF)
      · replace hF := ite_f hF c1
        refine g_iload_n (pc1 := 23) C d_M_takesNone_22 rfl rfl 1 rfl ?_
        refine g_iload (pc1 := 25) C d_M_takesNone_23 rfl 7 rfl ?_
        obtain ⟨r1, hr1, hF⟩ := bnd_some hF
        refine g_callSI (pc1 := 28) (As := [.int x1, .int x7]) (rest := []) C 2 (c_M_has l x1 x7 r1 hr1) s_M_has kw_188 rfl ⟨Nat.le_of_ble_eq_true rfl, Nat.le_of_ble_eq_true rfl⟩ ⟨rfl, rfl⟩ d_M_takesNone_25 rfl rfl (Nat.le_of_ble_eq_true rfl) ?_
        refine g_if_eq (pc1 := 31) C 53 d_M_takesNone_28 rfl (by decide) (fun c1 => ?_) (fun c1 => ?_)
        · replace hF := ite_t hF c1
          refine g_iconst (pc1 := 54) (v := (1 : Int32)) C d_M_takesNone_53 rfl ic_1 ?_
          refine g_goto C 58 d_M_takesNone_54 (by decide) ?_
          refine g_istore (pc1 := 60) (L1 := [(6, .int (1 : Int32)), (0, .ref (a 0)), (1, .int x1), (2, .int x2), (3, .int x3), (4, .int x4), (5, .int x5), (7, .int x7)]) C d_M_takesNone_58 rfl (by decide) rfl ?_
          refine g_iinc (pc1 := 63) (v := (x7 + (1 : Int32))) (L1 := [(7, .int (x7 + (1 : Int32))), (6, .int (1 : Int32)), (0, .ref (a 0)), (1, .int x1), (2, .int x2), (3, .int x3), (4, .int x4), (5, .int x5)]) C d_M_takesNone_60 rfl 7 rfl (by rw [ic_1]) (by decide) rfl ?_
          refine g_goto C 6 d_M_takesNone_63 (by decide) ?_
          exact g_sub [2, 3, 4, 5, 6, 7, 1, 0] rfl (hK6 x1 x2 x3 x4 x5 (1 : Int32) (x7 + (1 : Int32)) hF)
        · replace hF := ite_f hF c1
          refine g_aload_n (pc1 := 32) C d_M_takesNone_31 rfl rfl 0 rfl ?_
          refine g_iload (pc1 := 34) C d_M_takesNone_32 rfl 7 rfl ?_
          refine g_iload_n (pc1 := 35) C d_M_takesNone_34 rfl rfl 2 rfl ?_
          refine g_iload_n (pc1 := 36) C d_M_takesNone_35 rfl rfl 3 rfl ?_
          refine g_iload (pc1 := 38) C d_M_takesNone_36 rfl 4 rfl ?_
          refine g_iload (pc1 := 40) C d_M_takesNone_38 rfl 5 rfl ?_
          obtain ⟨r2, hr2, hF⟩ := bnd_some hF
          refine g_callVI (pc1 := 43) (ws1 := WM a cs μ) (As := [.int x7, .int x2, .int x3, .int x4, .int x5]) (rest := []) (b := a 0) C hK 5 (c_M_pullOf l D cs a μ x7 x2 x3 x4 x5 r2 hr2) s_M_pullOf kw_225 0 rfl rfl rfl ⟨Nat.le_of_ble_eq_true rfl, Nat.le_of_ble_eq_true rfl⟩ ⟨rfl, rfl⟩ d_M_takesNone_40 rfl rfl (Nat.le_of_ble_eq_true rfl) ?_
          refine g_aload_n (pc1 := 44) C d_M_takesNone_43 rfl rfl 0 rfl ?_
          refine g_iload (pc1 := 46) C d_M_takesNone_44 rfl 7 rfl ?_
          refine g_iload_n (pc1 := 47) C d_M_takesNone_46 rfl rfl 1 rfl ?_
          obtain ⟨r3, hr3, hF⟩ := bnd_some hF
          refine g_callVI (pc1 := 50) (ws1 := WM a cs μ) (As := [.int x7, .int x1]) (rest := [.int r2]) (b := a 0) C hK 2 (c_M_holds l D cs a μ x7 x1 r3 hr3) s_M_holds kw_226 0 rfl rfl rfl ⟨Nat.le_of_ble_eq_true rfl, Nat.le_of_ble_eq_true rfl⟩ ⟨rfl, rfl⟩ d_M_takesNone_47 rfl rfl (Nat.le_of_ble_eq_true rfl) ?_
          refine g_icmp_gt (pc1 := 53) C 57 d_M_takesNone_50 rfl (by decide) (fun c1 => ?_) (fun c1 => ?_)
          · replace hF := ite_t hF c1
            refine g_iconst (pc1 := 58) (v := (0 : Int32)) C d_M_takesNone_57 rfl ic_0 ?_
            refine g_istore (pc1 := 60) (L1 := [(6, .int (0 : Int32)), (0, .ref (a 0)), (1, .int x1), (2, .int x2), (3, .int x3), (4, .int x4), (5, .int x5), (7, .int x7)]) C d_M_takesNone_58 rfl (by decide) rfl ?_
            refine g_iinc (pc1 := 63) (v := (x7 + (1 : Int32))) (L1 := [(7, .int (x7 + (1 : Int32))), (6, .int (0 : Int32)), (0, .ref (a 0)), (1, .int x1), (2, .int x2), (3, .int x3), (4, .int x4), (5, .int x5)]) C d_M_takesNone_60 rfl 7 rfl (by rw [ic_1]) (by decide) rfl ?_
            refine g_goto C 6 d_M_takesNone_63 (by decide) ?_
            exact g_sub [2, 3, 4, 5, 6, 7, 1, 0] rfl (hK6 x1 x2 x3 x4 x5 (0 : Int32) (x7 + (1 : Int32)) hF)
          · replace hF := ite_f hF c1
            refine g_iconst (pc1 := 54) (v := (1 : Int32)) C d_M_takesNone_53 rfl ic_1 ?_
            refine g_goto C 58 d_M_takesNone_54 (by decide) ?_
            refine g_istore (pc1 := 60) (L1 := [(6, .int (1 : Int32)), (0, .ref (a 0)), (1, .int x1), (2, .int x2), (3, .int x3), (4, .int x4), (5, .int x5), (7, .int x7)]) C d_M_takesNone_58 rfl (by decide) rfl ?_
            refine g_iinc (pc1 := 63) (v := (x7 + (1 : Int32))) (L1 := [(7, .int (x7 + (1 : Int32))), (6, .int (1 : Int32)), (0, .ref (a 0)), (1, .int x1), (2, .int x2), (3, .int x3), (4, .int x4), (5, .int x5)]) C d_M_takesNone_60 rfl 7 rfl (by rw [ic_1]) (by decide) rfl ?_
            refine g_goto C 6 d_M_takesNone_63 (by decide) ?_
            exact g_sub [2, 3, 4, 5, 6, 7, 1, 0] rfl (hK6 x1 x2 x3 x4 x5 (1 : Int32) (x7 + (1 : Int32)) hF)
set_option maxHeartbeats 4000000 in
set_option maxRecDepth 100000 in
theorem c_M_takesNone (l : Launch) (D : va_G) (cs : Nat → ClassId) (a : Nat → Nat) (μ : Mem) (x1 : Int32) (x2 : Int32) (x3 : Int32) (x4 : Int32) (x5 : Int32) (r : Int32) (hF : F_M_takesNone μ x1 x2 x3 x4 x5 = some r) : MetI l y_M_takesNone b_M_takesNone 8 (some .boolean) { frames := 3, cells := 0, slots := 0, locals := 70 } D cs (AM a) (WM a cs μ) [.ref (a 0), .int x1, .int x2, .int x3, .int x4, .int x5] r (WM a cs μ) := by
  refine met_of rfl (by decide +kernel) (Nat.le_of_ble_eq_true rfl) (fun p e s m below meth c C hK hr hlk => ?_)
  unfold F_M_takesNone at hF
  show G p l e { frames := 3, cells := 0, slots := 0, locals := 70 } s m _ below meth c _ D (AM a) 8 (WM a cs μ) 0 [(0, .ref (a 0)), (1, .int x1), (2, .int x2), (3, .int x3), (4, .int x4), (5, .int x5)] []
  refine g_iconst (pc1 := 1) (v := (1 : Int32)) C d_M_takesNone_0 rfl ic_1 ?_
  refine g_istore (pc1 := 3) (L1 := [(6, .int (1 : Int32)), (0, .ref (a 0)), (1, .int x1), (2, .int x2), (3, .int x3), (4, .int x4), (5, .int x5)]) C d_M_takesNone_1 rfl (by decide) rfl ?_
  refine g_iconst (pc1 := 4) (v := (0 : Int32)) C d_M_takesNone_3 rfl ic_0 ?_
  refine g_istore (pc1 := 6) (L1 := [(7, .int (0 : Int32)), (6, .int (1 : Int32)), (0, .ref (a 0)), (1, .int x1), (2, .int x2), (3, .int x3), (4, .int x4), (5, .int x5)]) C d_M_takesNone_4 rfl (by decide) rfl ?_
  exact g_sub [2, 3, 4, 5, 6, 7, 1, 0] rfl (p_M_takesNone_6 C hK hr hlk  x1 x2 x3 x4 x5 (1 : Int32) (0 : Int32) hF)
-- TentPegsModel.takesNoneNow(II)Z
set_option maxHeartbeats 4000000 in
set_option maxRecDepth 100000 in
theorem c_M_takesNoneNow (l : Launch) (D : va_G) (cs : Nat → ClassId) (a : Nat → Nat) (μ : Mem) (x1 : Int32) (x2 : Int32) (r : Int32) (hF : F_M_takesNoneNow μ x1 x2 = some r) : MetI l y_M_takesNoneNow b_M_takesNoneNow 3 (some .boolean) { frames := 4, cells := 0, slots := 0, locals := 97 } D cs (AM a) (WM a cs μ) [.ref (a 0), .int x1, .int x2] r (WM a cs μ) := by
  refine met_of rfl (by decide +kernel) (Nat.le_of_ble_eq_true rfl) (fun p e s m below meth c C hK hr hlk => ?_)
  unfold F_M_takesNoneNow at hF
  show G p l e { frames := 4, cells := 0, slots := 0, locals := 97 } s m _ below meth c _ D (AM a) 3 (WM a cs μ) 0 [(0, .ref (a 0)), (1, .int x1), (2, .int x2)] []
  refine g_aload_n (pc1 := 1) C d_M_takesNoneNow_0 rfl rfl 0 rfl ?_
  refine g_aload_n (pc1 := 2) C d_M_takesNoneNow_1 rfl rfl 0 rfl ?_
  refine get_WM_0_field (pc1 := 5) C hK kw_172 d_M_takesNoneNow_2 rfl ?_
  refine g_iconst (pc1 := 6) (v := (1 : Int32)) C d_M_takesNoneNow_5 rfl ic_1 ?_
  have hg := gd_some hF
  replace hF := hg.2
  refine g_iald (pc1 := 7) C hK 2 (f := (μ.1 2)) rfl hg.1 d_M_takesNoneNow_6 rfl ?_
  refine g_iload_n (pc1 := 8) C d_M_takesNoneNow_7 rfl rfl 1 rfl ?_
  refine g_iload_n (pc1 := 9) C d_M_takesNoneNow_8 rfl rfl 2 rfl ?_
  refine g_iconst (pc1 := 10) (v := (0 : Int32)) C d_M_takesNoneNow_9 rfl ic_0 ?_
  refine g_aload_n (pc1 := 11) C d_M_takesNoneNow_10 rfl rfl 0 rfl ?_
  refine get_WM_0_field (pc1 := 14) C hK kw_172 d_M_takesNoneNow_11 rfl ?_
  refine g_iconst (pc1 := 15) (v := (3 : Int32)) C d_M_takesNoneNow_14 rfl ic_3 ?_
  have hg := gd_some hF
  replace hF := hg.2
  refine g_iald (pc1 := 16) C hK 2 (f := (μ.1 2)) rfl hg.1 d_M_takesNoneNow_15 rfl ?_
  obtain ⟨r1, hr1, hF⟩ := bnd_some hF
  refine g_callVI (pc1 := 19) (ws1 := WM a cs μ) (As := [.int ((μ.1 2) (1 : Int32).toNatClampNeg), .int x1, .int x2, .int (0 : Int32), .int ((μ.1 2) (3 : Int32).toNatClampNeg)]) (rest := []) (b := a 0) C hK 5 (c_M_takesNone l D cs a μ ((μ.1 2) (1 : Int32).toNatClampNeg) x1 x2 (0 : Int32) ((μ.1 2) (3 : Int32).toNatClampNeg) r1 hr1) s_M_takesNone kw_227 0 rfl rfl rfl ⟨Nat.le_of_ble_eq_true rfl, Nat.le_of_ble_eq_true rfl⟩ ⟨rfl, rfl⟩ d_M_takesNoneNow_16 rfl rfl (Nat.le_of_ble_eq_true rfl) ?_
  have hg := gd_some hF
  replace hF := hg.2
  exact g_zret C hr hlk (isZ_n hg.1) d_M_takesNoneNow_19 (Option.some.inj hF) rfl
-- TentPegsModel.nextOf(III)I
set_option maxHeartbeats 4000000 in
set_option maxRecDepth 100000 in
theorem p_M_nextOf_19 {p : Program} {l : Launch} {e : Env} {s : State} {m : MethodId} {args : Array Value} {below : List Frame} {meth : Method} {c : Code} {D : va_G} {cs : Nat → ClassId} {a : Nat → Nat} {μ : Mem} {r : Int32} (C : Cx p s m args c b_M_nextOf 6 "TentPegsModel") (hK : va_K D classes (tys cs) s) (hr : meth.sig.returnType = (some .int)) (hlk : meth.locks = false)  : ∀ (x1 : Int32) (x3 : Int32) (x4 : Int32) (x5 : Int32), F_M_nextOf_19  μ x1 x3 x4 x5 = some r → G p l e { frames := 1, cells := 0, slots := 0, locals := 21 } s m args below meth c (MQ below (Qi (AM a) D (WM a cs μ) r) args s 0 0 (AM a)) D (AM a) 6 (WM a cs μ) 19 [(1, .int x1), (3, .int x3), (4, .int x4), (5, .int x5)] [] := by
  refine iter_ind (fun (K19 : Mem → Int32 → Int32 → Int32 → Int32 → Option Int32) => ∀ (x1 : Int32) (x3 : Int32) (x4 : Int32) (x5 : Int32), K19 μ x1 x3 x4 x5 = some r → G p l e { frames := 1, cells := 0, slots := 0, locals := 21 } s m args below meth c (MQ below (Qi (AM a) D (WM a cs μ) r) args s 0 0 (AM a)) D (AM a) 6 (WM a cs μ) 19 [(1, .int x1), (3, .int x3), (4, .int x4), (5, .int x5)] []) ?_ ?_ NF
  · intro x1 x3 x4 x5 hF
    exact none_no hF
  · intro K19 hK19 x1 x3 x4 x5 hF
    unfold S_M_nextOf_19 at hF
    refine g_iload_n (pc1 := 20) C d_M_nextOf_19 rfl rfl 0 rfl ?_
    refine g_iload (pc1 := 22) C d_M_nextOf_20 rfl 3 rfl ?_
    obtain ⟨r1, hr1, hF⟩ := bnd_some hF
    refine g_callSI (pc1 := 25) (As := [.int x1, .int x5]) (rest := []) C 2 (c_M_has l x1 x5 r1 hr1) s_M_has kw_188 rfl ⟨Nat.le_of_ble_eq_true rfl, Nat.le_of_ble_eq_true rfl⟩ ⟨rfl, rfl⟩ d_M_nextOf_22 rfl rfl (Nat.le_of_ble_eq_true rfl) ?_
    refine g_if_ne (pc1 := 28) C 43 d_M_nextOf_25 rfl (by decide) (fun c1 => ?_) (fun c1 => ?_)
    · replace hF := ite_f hF c1
      refine g_iload (pc1 := 45) C d_M_nextOf_43 rfl 3 rfl ?_
      exact g_iret C hr hlk d_M_nextOf_45 (Option.some.inj hF) rfl
    · replace hF := ite_t hF c1
      refine g_iload (pc1 := 30) C d_M_nextOf_28 rfl 3 rfl ?_
      refine g_iload_n (pc1 := 31) C d_M_nextOf_30 rfl rfl 1 rfl ?_
      refine g_iadd (pc1 := 32) C d_M_nextOf_31 rfl ?_
      refine g_iload (pc1 := 34) C d_M_nextOf_32 rfl 2 rfl ?_
      refine g_iadd (pc1 := 35) C d_M_nextOf_34 rfl ?_
      refine g_iload (pc1 := 37) C d_M_nextOf_35 rfl 2 rfl ?_
      by_cases h0 : x4 = 0
      · exact none_no (ite_t hF h0)
      replace hF := ite_f hF h0
      refine g_irem (pc1 := 38) C d_M_nextOf_37 rfl h0 ?_
      refine g_istore (pc1 := 40) (L1 := [(5, .int (((x5 + x3) + x4) - ((x5 + x3) + x4) / x4 * x4)), (1, .int x1), (3, .int x3), (4, .int x4)]) C d_M_nextOf_38 rfl (by decide) rfl ?_
      refine g_goto C 19 d_M_nextOf_40 (by decide) ?_
      exact g_sub [1, 2, 3, 0] rfl (hK19 x1 x3 x4 (((x5 + x3) + x4) - ((x5 + x3) + x4) / x4 * x4) hF)
set_option maxHeartbeats 4000000 in
set_option maxRecDepth 100000 in
theorem c_M_nextOf (l : Launch) (D : va_G) (cs : Nat → ClassId) (a : Nat → Nat) (μ : Mem) (x1 : Int32) (x2 : Int32) (x3 : Int32) (r : Int32) (hF : F_M_nextOf μ x1 x2 x3 = some r) : MetI l y_M_nextOf b_M_nextOf 6 (some .int) { frames := 1, cells := 0, slots := 0, locals := 21 } D cs (AM a) (WM a cs μ) [.ref (a 0), .int x1, .int x2, .int x3] r (WM a cs μ) := by
  refine met_of rfl (by decide +kernel) (Nat.le_of_ble_eq_true rfl) (fun p e s m below meth c C hK hr hlk => ?_)
  unfold F_M_nextOf at hF
  show G p l e { frames := 1, cells := 0, slots := 0, locals := 21 } s m _ below meth c _ D (AM a) 6 (WM a cs μ) 0 [(0, .ref (a 0)), (1, .int x1), (2, .int x2), (3, .int x3)] []
  refine g_aload_n (pc1 := 1) C d_M_nextOf_0 rfl rfl 0 rfl ?_
  refine get_WM_0_field (pc1 := 4) C hK kw_172 d_M_nextOf_1 rfl ?_
  refine g_iconst (pc1 := 5) (v := (0 : Int32)) C d_M_nextOf_4 rfl ic_0 ?_
  have hg := gd_some hF
  replace hF := hg.2
  refine g_iald (pc1 := 6) C hK 2 (f := (μ.1 2)) rfl hg.1 d_M_nextOf_5 rfl ?_
  refine g_istore (pc1 := 8) (L1 := [(4, .int ((μ.1 2) (0 : Int32).toNatClampNeg)), (0, .ref (a 0)), (1, .int x1), (2, .int x2), (3, .int x3)]) C d_M_nextOf_6 rfl (by decide) rfl ?_
  refine g_iload_n (pc1 := 9) C d_M_nextOf_8 rfl rfl 3 rfl ?_
  refine g_iload_n (pc1 := 10) C d_M_nextOf_9 rfl rfl 4 rfl ?_
  refine g_iadd (pc1 := 11) C d_M_nextOf_10 rfl ?_
  refine g_iload (pc1 := 13) C d_M_nextOf_11 rfl 0 rfl ?_
  refine g_iadd (pc1 := 14) C d_M_nextOf_13 rfl ?_
  refine g_iload (pc1 := 16) C d_M_nextOf_14 rfl 0 rfl ?_
  by_cases h0 : ((μ.1 2) (0 : Int32).toNatClampNeg) = 0
  · exact none_no (ite_t hF h0)
  replace hF := ite_f hF h0
  refine g_irem (pc1 := 17) C d_M_nextOf_16 rfl h0 ?_
  refine g_istore (pc1 := 19) (L1 := [(5, .int (((x2 + x3) + ((μ.1 2) (0 : Int32).toNatClampNeg)) - ((x2 + x3) + ((μ.1 2) (0 : Int32).toNatClampNeg)) / ((μ.1 2) (0 : Int32).toNatClampNeg) * ((μ.1 2) (0 : Int32).toNatClampNeg))), (4, .int ((μ.1 2) (0 : Int32).toNatClampNeg)), (0, .ref (a 0)), (1, .int x1), (2, .int x2), (3, .int x3)]) C d_M_nextOf_17 rfl (by decide) rfl ?_
  exact g_sub [3, 5, 1, 0] rfl (p_M_nextOf_19 C hK hr hlk  x1 x3 ((μ.1 2) (0 : Int32).toNatClampNeg) (((x2 + x3) + ((μ.1 2) (0 : Int32).toNatClampNeg)) - ((x2 + x3) + ((μ.1 2) (0 : Int32).toNatClampNeg)) / ((μ.1 2) (0 : Int32).toNatClampNeg) * ((μ.1 2) (0 : Int32).toNatClampNeg)) hF)
-- TentPegsModel.mostOf(I)I
set_option maxHeartbeats 4000000 in
set_option maxRecDepth 100000 in
theorem p_M_mostOf_60 {p : Program} {l : Launch} {e : Env} {s : State} {m : MethodId} {args : Array Value} {below : List Frame} {meth : Method} {c : Code} {D : va_G} {cs : Nat → ClassId} {a : Nat → Nat} {μ : Mem} {r : Int32} (C : Cx p s m args c b_M_mostOf 6 "TentPegsModel") (hK : va_K D classes (tys cs) s) (hr : meth.sig.returnType = (some .int)) (hlk : meth.locks = false) (K7 : Mem → Int32 → Int32 → Int32 → Int32 → Option Int32) (hK7 : ∀ (x1 : Int32) (x2 : Int32) (x3 : Int32) (x4 : Int32), K7 μ x1 x2 x3 x4 = some r → G p l e { frames := 3, cells := 0, slots := 0, locals := 66 } s m args below meth c (MQ below (Qi (AM a) D (WM a cs μ) r) args s 0 0 (AM a)) D (AM a) 6 (WM a cs μ) 7 [(0, .ref (a 0)), (1, .int x1), (2, .int x2), (3, .int x3), (4, .int x4)] []) (x1 : Int32) (x3 : Int32) (x4 : Int32) (x5 : Int32) (s0 : Int32) (hF : F_M_mostOf_60 K7 μ x1 x3 x4 x5 s0 = some r) : G p l e { frames := 3, cells := 0, slots := 0, locals := 66 } s m args below meth c (MQ below (Qi (AM a) D (WM a cs μ) r) args s 0 0 (AM a)) D (AM a) 6 (WM a cs μ) 60 [(0, .ref (a 0)), (1, .int x1), (3, .int x3), (4, .int x4), (5, .int x5)] [.int s0] := by
  unfold F_M_mostOf_60 at hF
  refine g_istore_n (pc1 := 61) (L1 := [(2, .int s0), (0, .ref (a 0)), (1, .int x1), (3, .int x3), (4, .int x4), (5, .int x5)]) C d_M_mostOf_60 rfl rfl (by decide) rfl ?_
  refine g_iload (pc1 := 63) C d_M_mostOf_61 rfl 5 rfl ?_
  refine g_iload_n (pc1 := 64) C d_M_mostOf_63 rfl rfl 3 rfl ?_
  refine g_icmp_le (pc1 := 67) C 72 d_M_mostOf_64 rfl (by decide) (fun c1 => ?_) (fun c1 => ?_)
  · replace hF := ite_t hF c1
    refine g_iload_n (pc1 := 73) C d_M_mostOf_72 rfl rfl 3 rfl ?_
    refine g_istore_n (pc1 := 74) (L1 := [(3, .int x3), (2, .int s0), (0, .ref (a 0)), (1, .int x1), (4, .int x4), (5, .int x5)]) C d_M_mostOf_73 rfl rfl (by decide) rfl ?_
    refine g_iinc (pc1 := 77) (v := (x4 + (1 : Int32))) (L1 := [(4, .int (x4 + (1 : Int32))), (3, .int x3), (2, .int s0), (0, .ref (a 0)), (1, .int x1), (5, .int x5)]) C d_M_mostOf_74 rfl 4 rfl (by rw [ic_1]) (by decide) rfl ?_
    refine g_goto C 7 d_M_mostOf_77 (by decide) ?_
    exact g_sub [3, 4, 2, 1, 0] rfl (hK7 x1 s0 x3 (x4 + (1 : Int32)) hF)
  · replace hF := ite_f hF c1
    refine g_iload (pc1 := 69) C d_M_mostOf_67 rfl 5 rfl ?_
    refine g_goto C 73 d_M_mostOf_69 (by decide) ?_
    refine g_istore_n (pc1 := 74) (L1 := [(3, .int x5), (2, .int s0), (0, .ref (a 0)), (1, .int x1), (4, .int x4), (5, .int x5)]) C d_M_mostOf_73 rfl rfl (by decide) rfl ?_
    refine g_iinc (pc1 := 77) (v := (x4 + (1 : Int32))) (L1 := [(4, .int (x4 + (1 : Int32))), (3, .int x5), (2, .int s0), (0, .ref (a 0)), (1, .int x1), (5, .int x5)]) C d_M_mostOf_74 rfl 4 rfl (by rw [ic_1]) (by decide) rfl ?_
    refine g_goto C 7 d_M_mostOf_77 (by decide) ?_
    exact g_sub [3, 4, 2, 1, 0] rfl (hK7 x1 s0 x5 (x4 + (1 : Int32)) hF)
set_option maxHeartbeats 4000000 in
set_option maxRecDepth 100000 in
theorem p_M_mostOf_46 {p : Program} {l : Launch} {e : Env} {s : State} {m : MethodId} {args : Array Value} {below : List Frame} {meth : Method} {c : Code} {D : va_G} {cs : Nat → ClassId} {a : Nat → Nat} {μ : Mem} {r : Int32} (C : Cx p s m args c b_M_mostOf 6 "TentPegsModel") (hK : va_K D classes (tys cs) s) (hr : meth.sig.returnType = (some .int)) (hlk : meth.locks = false) (K7 : Mem → Int32 → Int32 → Int32 → Int32 → Option Int32) (hK7 : ∀ (x1 : Int32) (x2 : Int32) (x3 : Int32) (x4 : Int32), K7 μ x1 x2 x3 x4 = some r → G p l e { frames := 3, cells := 0, slots := 0, locals := 66 } s m args below meth c (MQ below (Qi (AM a) D (WM a cs μ) r) args s 0 0 (AM a)) D (AM a) 6 (WM a cs μ) 7 [(0, .ref (a 0)), (1, .int x1), (2, .int x2), (3, .int x3), (4, .int x4)] []) (x1 : Int32) (x2 : Int32) (x3 : Int32) (x4 : Int32) (s0 : Int32) (hF : F_M_mostOf_46 K7 μ x1 x2 x3 x4 s0 = some r) : G p l e { frames := 3, cells := 0, slots := 0, locals := 66 } s m args below meth c (MQ below (Qi (AM a) D (WM a cs μ) r) args s 0 0 (AM a)) D (AM a) 6 (WM a cs μ) 46 [(0, .ref (a 0)), (1, .int x1), (2, .int x2), (3, .int x3), (4, .int x4)] [.int s0] := by
  unfold F_M_mostOf_46 at hF
  refine g_istore (pc1 := 48) (L1 := [(5, .int s0), (0, .ref (a 0)), (1, .int x1), (2, .int x2), (3, .int x3), (4, .int x4)]) C d_M_mostOf_46 rfl (by decide) rfl ?_
  refine g_iload (pc1 := 50) C d_M_mostOf_48 rfl 0 rfl ?_
  refine g_iload_n (pc1 := 51) C d_M_mostOf_50 rfl rfl 4 rfl ?_
  refine g_icmp_le (pc1 := 54) C 59 d_M_mostOf_51 rfl (by decide) (fun c1 => ?_) (fun c1 => ?_)
  · replace hF := ite_t hF c1
    refine g_iload_n (pc1 := 60) C d_M_mostOf_59 rfl rfl 3 rfl ?_
    exact g_sub [1, 2, 4, 5, 0] rfl (p_M_mostOf_60 C hK hr hlk K7 hK7 x1 x3 x4 s0 x2 hF)
  · replace hF := ite_f hF c1
    refine g_iload (pc1 := 56) C d_M_mostOf_54 rfl 5 rfl ?_
    refine g_goto C 60 d_M_mostOf_56 (by decide) ?_
    exact g_sub [1, 2, 4, 5, 0] rfl (p_M_mostOf_60 C hK hr hlk K7 hK7 x1 x3 x4 s0 x4 hF)
set_option maxHeartbeats 4000000 in
set_option maxRecDepth 100000 in
theorem p_M_mostOf_7 {p : Program} {l : Launch} {e : Env} {s : State} {m : MethodId} {args : Array Value} {below : List Frame} {meth : Method} {c : Code} {D : va_G} {cs : Nat → ClassId} {a : Nat → Nat} {μ : Mem} {r : Int32} (C : Cx p s m args c b_M_mostOf 6 "TentPegsModel") (hK : va_K D classes (tys cs) s) (hr : meth.sig.returnType = (some .int)) (hlk : meth.locks = false)  : ∀ (x1 : Int32) (x2 : Int32) (x3 : Int32) (x4 : Int32), F_M_mostOf_7  μ x1 x2 x3 x4 = some r → G p l e { frames := 3, cells := 0, slots := 0, locals := 66 } s m args below meth c (MQ below (Qi (AM a) D (WM a cs μ) r) args s 0 0 (AM a)) D (AM a) 6 (WM a cs μ) 7 [(0, .ref (a 0)), (1, .int x1), (2, .int x2), (3, .int x3), (4, .int x4)] [] := by
  refine iter_ind (fun (K7 : Mem → Int32 → Int32 → Int32 → Int32 → Option Int32) => ∀ (x1 : Int32) (x2 : Int32) (x3 : Int32) (x4 : Int32), K7 μ x1 x2 x3 x4 = some r → G p l e { frames := 3, cells := 0, slots := 0, locals := 66 } s m args below meth c (MQ below (Qi (AM a) D (WM a cs μ) r) args s 0 0 (AM a)) D (AM a) 6 (WM a cs μ) 7 [(0, .ref (a 0)), (1, .int x1), (2, .int x2), (3, .int x3), (4, .int x4)] []) ?_ ?_ NF
  · intro x1 x2 x3 x4 hF
    exact none_no hF
  · intro K7 hK7 x1 x2 x3 x4 hF
    unfold S_M_mostOf_7 at hF
    refine g_iload (pc1 := 9) C d_M_mostOf_7 rfl 4 rfl ?_
    refine g_aload_n (pc1 := 10) C d_M_mostOf_9 rfl rfl 0 rfl ?_
    refine get_WM_0_field (pc1 := 13) C hK kw_172 d_M_mostOf_10 rfl ?_
    refine g_iconst (pc1 := 14) (v := (0 : Int32)) C d_M_mostOf_13 rfl ic_0 ?_
    have hg := gd_some hF
    replace hF := hg.2
    refine g_iald (pc1 := 15) C hK 2 (f := (μ.1 2)) rfl hg.1 d_M_mostOf_14 rfl ?_
    refine g_icmp_ge (pc1 := 18) C 80 d_M_mostOf_15 rfl (by decide) (fun c1 => ?_) (fun c1 => ?_)
    · replace hF := ite_t hF c1
      refine g_iload_n (pc1 := 81) C d_M_mostOf_80 rfl rfl 2 rfl ?_
      exact g_iret C hr hlk d_M_mostOf_81 (Option.some.inj hF) rfl
    · replace hF := ite_f hF c1
      refine g_iload_n (pc1 := 19) C d_M_mostOf_18 rfl rfl 1 rfl ?_
      refine g_iload (pc1 := 21) C d_M_mostOf_19 rfl 4 rfl ?_
      obtain ⟨r1, hr1, hF⟩ := bnd_some hF
      refine g_callSI (pc1 := 24) (As := [.int x1, .int x4]) (rest := []) C 2 (c_M_has l x1 x4 r1 hr1) s_M_has kw_188 rfl ⟨Nat.le_of_ble_eq_true rfl, Nat.le_of_ble_eq_true rfl⟩ ⟨rfl, rfl⟩ d_M_mostOf_21 rfl rfl (Nat.le_of_ble_eq_true rfl) ?_
      refine g_if_eq (pc1 := 27) C 45 d_M_mostOf_24 rfl (by decide) (fun c1 => ?_) (fun c1 => ?_)
      · replace hF := ite_t hF c1
        refine g_iconst (pc1 := 46) (v := (0 : Int32)) C d_M_mostOf_45 rfl ic_0 ?_
        exact g_sub [0, 1, 2, 3, 4] rfl (p_M_mostOf_46 C hK hr hlk K7 hK7 x1 x2 x3 x4 (0 : Int32) hF)
      · replace hF := ite_f hF c1
        refine g_aload_n (pc1 := 28) C d_M_mostOf_27 rfl rfl 0 rfl ?_
        refine get_WM_0_pull (pc1 := 31) C hK kw_228 d_M_mostOf_28 rfl ?_
        refine g_iload (pc1 := 33) C d_M_mostOf_31 rfl 4 rfl ?_
        have hg := gd_some hF
        replace hF := hg.2
        refine g_iald (pc1 := 34) C hK 8 (f := (μ.1 8)) rfl hg.1 d_M_mostOf_33 rfl ?_
        refine g_aload_n (pc1 := 35) C d_M_mostOf_34 rfl rfl 0 rfl ?_
        refine g_iload (pc1 := 37) C d_M_mostOf_35 rfl 4 rfl ?_
        refine g_iload_n (pc1 := 38) C d_M_mostOf_37 rfl rfl 1 rfl ?_
        obtain ⟨r2, hr2, hF⟩ := bnd_some hF
        refine g_callVI (pc1 := 41) (ws1 := WM a cs μ) (As := [.int x4, .int x1]) (rest := [.int ((μ.1 8) x4.toNatClampNeg)]) (b := a 0) C hK 2 (c_M_holds l D cs a μ x4 x1 r2 hr2) s_M_holds kw_226 0 rfl rfl rfl ⟨Nat.le_of_ble_eq_true rfl, Nat.le_of_ble_eq_true rfl⟩ ⟨rfl, rfl⟩ d_M_mostOf_38 rfl rfl (Nat.le_of_ble_eq_true rfl) ?_
        refine g_isub (pc1 := 42) C d_M_mostOf_41 rfl ?_
        refine g_goto C 46 d_M_mostOf_42 (by decide) ?_
        exact g_sub [0, 1, 2, 3, 4] rfl (p_M_mostOf_46 C hK hr hlk K7 hK7 x1 x2 x3 x4 (((μ.1 8) x4.toNatClampNeg) - r2) hF)
set_option maxHeartbeats 4000000 in
set_option maxRecDepth 100000 in
theorem c_M_mostOf (l : Launch) (D : va_G) (cs : Nat → ClassId) (a : Nat → Nat) (μ : Mem) (x1 : Int32) (r : Int32) (hF : F_M_mostOf μ x1 = some r) : MetI l y_M_mostOf b_M_mostOf 6 (some .int) { frames := 3, cells := 0, slots := 0, locals := 66 } D cs (AM a) (WM a cs μ) [.ref (a 0), .int x1] r (WM a cs μ) := by
  refine met_of rfl (by decide +kernel) (Nat.le_of_ble_eq_true rfl) (fun p e s m below meth c C hK hr hlk => ?_)
  unfold F_M_mostOf at hF
  show G p l e { frames := 3, cells := 0, slots := 0, locals := 66 } s m _ below meth c _ D (AM a) 6 (WM a cs μ) 0 [(0, .ref (a 0)), (1, .int x1)] []
  refine g_iconst (pc1 := 1) (v := (-1 : Int32)) C d_M_mostOf_0 rfl ic_m1 ?_
  refine g_istore_n (pc1 := 2) (L1 := [(2, .int (-1 : Int32)), (0, .ref (a 0)), (1, .int x1)]) C d_M_mostOf_1 rfl rfl (by decide) rfl ?_
  refine g_iconst (pc1 := 3) (v := (0 : Int32)) C d_M_mostOf_2 rfl ic_0 ?_
  refine g_istore_n (pc1 := 4) (L1 := [(3, .int (0 : Int32)), (2, .int (-1 : Int32)), (0, .ref (a 0)), (1, .int x1)]) C d_M_mostOf_3 rfl rfl (by decide) rfl ?_
  refine g_iconst (pc1 := 5) (v := (0 : Int32)) C d_M_mostOf_4 rfl ic_0 ?_
  refine g_istore (pc1 := 7) (L1 := [(4, .int (0 : Int32)), (3, .int (0 : Int32)), (2, .int (-1 : Int32)), (0, .ref (a 0)), (1, .int x1)]) C d_M_mostOf_5 rfl (by decide) rfl ?_
  exact g_sub [3, 4, 2, 1, 0] rfl (p_M_mostOf_7 C hK hr hlk  x1 (-1 : Int32) (0 : Int32) (0 : Int32) hF)
-- TentPegsModel.behind(III)I
set_option maxHeartbeats 4000000 in
set_option maxRecDepth 100000 in
theorem p_M_behind_172 {p : Program} {l : Launch} {e : Env} {s : State} {m : MethodId} {args : Array Value} {below : List Frame} {meth : Method} {c : Code} {D : va_G} {cs : Nat → ClassId} {a : Nat → Nat} {r : Int32} {μ1 : Mem} (C : Cx p s m args c b_M_behind 7 "TentPegsModel") (hK : va_K D classes (tys cs) s) (hr : meth.sig.returnType = (some .int)) (hlk : meth.locks = false) (K72 : Mem → Int32 → Int32 → Option (Int32 × Mem)) (hK72 : ∀ (μ : Mem) (x4 : Int32) (x5 : Int32), K72 μ x4 x5 = some (r, μ1) → G p l e { frames := 4, cells := 0, slots := 0, locals := 91 } s m args below meth c (MQ below (Qi (AM a) D (WM a cs μ1) r) args s 0 0 (AM a)) D (AM a) 7 (WM a cs μ) 72 [(0, .ref (a 0)), (4, .int x4), (5, .int x5)] []) (μ : Mem) (x4 : Int32) (hF : F_M_behind_172 K72 μ x4 = some (r, μ1)) : G p l e { frames := 4, cells := 0, slots := 0, locals := 91 } s m args below meth c (MQ below (Qi (AM a) D (WM a cs μ1) r) args s 0 0 (AM a)) D (AM a) 7 (WM a cs μ) 172 [(0, .ref (a 0)), (4, .int x4)] [] := by
  unfold F_M_behind_172 at hF
  refine g_aload_n (pc1 := 173) C d_M_behind_172 rfl rfl 0 rfl ?_
  refine g_iload (pc1 := 175) C d_M_behind_173 rfl 1 rfl ?_
  obtain ⟨r1, hr1, hF⟩ := bnd_some hF
  refine g_callVI (pc1 := 178) (ws1 := WM a cs μ) (As := [.int x4]) (rest := []) (b := a 0) C hK 1 (c_M_mostOf l D cs a μ x4 r1 hr1) s_M_mostOf kw_230 0 rfl rfl rfl ⟨Nat.le_of_ble_eq_true rfl, Nat.le_of_ble_eq_true rfl⟩ ⟨rfl, rfl⟩ d_M_behind_175 rfl rfl (Nat.le_of_ble_eq_true rfl) ?_
  refine g_istore (pc1 := 180) (L1 := [(5, .int r1), (0, .ref (a 0)), (4, .int x4)]) C d_M_behind_178 rfl (by decide) rfl ?_
  refine g_goto C 72 d_M_behind_180 (by decide) ?_
  exact g_sub [1, 2, 0] rfl (hK72 μ x4 r1 hF)
set_option maxHeartbeats 4000000 in
set_option maxRecDepth 100000 in
theorem p_M_behind_72 {p : Program} {l : Launch} {e : Env} {s : State} {m : MethodId} {args : Array Value} {below : List Frame} {meth : Method} {c : Code} {D : va_G} {cs : Nat → ClassId} {a : Nat → Nat} {r : Int32} {μ1 : Mem} (C : Cx p s m args c b_M_behind 7 "TentPegsModel") (hK : va_K D classes (tys cs) s) (hr : meth.sig.returnType = (some .int)) (hlk : meth.locks = false)  : ∀ (μ : Mem) (x4 : Int32) (x5 : Int32), F_M_behind_72  μ x4 x5 = some (r, μ1) → G p l e { frames := 4, cells := 0, slots := 0, locals := 91 } s m args below meth c (MQ below (Qi (AM a) D (WM a cs μ1) r) args s 0 0 (AM a)) D (AM a) 7 (WM a cs μ) 72 [(0, .ref (a 0)), (4, .int x4), (5, .int x5)] [] := by
  refine iter_ind (fun (K72 : Mem → Int32 → Int32 → Option (Int32 × Mem)) => ∀ (μ : Mem) (x4 : Int32) (x5 : Int32), K72 μ x4 x5 = some (r, μ1) → G p l e { frames := 4, cells := 0, slots := 0, locals := 91 } s m args below meth c (MQ below (Qi (AM a) D (WM a cs μ1) r) args s 0 0 (AM a)) D (AM a) 7 (WM a cs μ) 72 [(0, .ref (a 0)), (4, .int x4), (5, .int x5)] []) ?_ ?_ NF
  · intro μ x4 x5 hF
    exact none_no hF
  · intro K72 hK72 μ x4 x5 hF
    unfold S_M_behind_72 at hF
    refine g_iload (pc1 := 74) C d_M_behind_72 rfl 2 rfl ?_
    refine g_iconst (pc1 := 75) (v := (-1 : Int32)) C d_M_behind_74 rfl ic_m1 ?_
    refine g_icmp_eq (pc1 := 78) C 183 d_M_behind_75 rfl (by decide) (fun c1 => ?_) (fun c1 => ?_)
    · replace hF := ite_t hF c1
      refine g_iload (pc1 := 185) C d_M_behind_183 rfl 1 rfl ?_
      exact g_iret C hr hlk d_M_behind_185 (fst_of hF) (congrArg (WM a cs) (snd_of hF))
    · replace hF := ite_f hF c1
      refine g_iload (pc1 := 80) C d_M_behind_78 rfl 1 rfl ?_
      refine g_iconst (pc1 := 81) (v := (1 : Int32)) C d_M_behind_80 rfl ic_1 ?_
      refine g_iload (pc1 := 83) C d_M_behind_81 rfl 2 rfl ?_
      refine g_ishl (pc1 := 84) C d_M_behind_83 rfl ?_
      refine g_ixor (pc1 := 85) C d_M_behind_84 rfl ?_
      refine g_istore (pc1 := 87) (L1 := [(4, .int (x4 ^^^ ((1 : Int32) <<< (x5 &&& 31)))), (0, .ref (a 0)), (5, .int x5)]) C d_M_behind_85 rfl (by decide) rfl ?_
      refine g_aload_n (pc1 := 88) C d_M_behind_87 rfl rfl 1 rfl ?_
      refine get_WM_0_row (pc1 := 91) C hK kw_231 d_M_behind_88 rfl ?_
      refine g_aload_n (pc1 := 92) C d_M_behind_91 rfl rfl 1 rfl ?_
      refine get_WM_0_gone (pc1 := 95) C hK (v := (μ.1 0 16)) rfl kw_229 d_M_behind_92 rfl ?_
      refine g_iload (pc1 := 97) C d_M_behind_95 rfl 2 rfl ?_
      have hg := gd_some hF
      replace hF := hg.2
      refine g_iast (pc1 := 98) (ws1 := WM a cs (stI μ 9 (μ.1 0 16).toNatClampNeg x5)) C hK 9 (f := (μ.1 9)) rfl hg.1 (set_WM_9 _ _ _ _ _) d_M_behind_97 rfl ?_
      refine g_aload_n (pc1 := 99) C d_M_behind_98 rfl rfl 1 rfl ?_
      refine g_dup (pc1 := 100) C d_M_behind_99 rfl rfl ?_
      refine get_WM_0_gone (pc1 := 103) C hK (v := (μ.1 0 16)) rfl kw_229 d_M_behind_100 rfl ?_
      refine g_iconst (pc1 := 104) (v := (1 : Int32)) C d_M_behind_103 rfl ic_1 ?_
      refine g_iadd (pc1 := 105) C d_M_behind_104 rfl ?_
      refine put_WM_0_gone (pc1 := 108) C hK kw_229 d_M_behind_105 rfl ?_
      refine g_iload (pc1 := 110) C d_M_behind_108 rfl 0 rfl ?_
      refine g_if_eq (pc1 := 113) C 172 d_M_behind_110 rfl (by decide) (fun c1 => ?_) (fun c1 => ?_)
      · replace hF := ite_t hF c1
        exact g_sub [1, 0] rfl (p_M_behind_172 C hK hr hlk K72 hK72 (stI (stI μ 9 (μ.1 0 16).toNatClampNeg x5) 0 16 ((μ.1 0 16) + (1 : Int32))) (x4 ^^^ ((1 : Int32) <<< (x5 &&& 31))) hF)
      · replace hF := ite_f hF c1
        refine g_aload_n (pc1 := 114) C d_M_behind_113 rfl rfl 1 rfl ?_
        refine get_WM_0_pull (pc1 := 117) C hK kw_228 d_M_behind_114 rfl ?_
        refine g_iload (pc1 := 119) C d_M_behind_117 rfl 2 rfl ?_
        have hg := gd_some hF
        replace hF := hg.2
        refine g_iald (pc1 := 120) C hK 8 (f := (μ.1 8)) rfl hg.1 d_M_behind_119 rfl ?_
        refine g_iconst (pc1 := 121) (v := (1 : Int32)) C d_M_behind_120 rfl ic_1 ?_
        refine g_iadd (pc1 := 122) C d_M_behind_121 rfl ?_
        refine g_iconst (pc1 := 123) (v := (2 : Int32)) C d_M_behind_122 rfl ic_2 ?_
        refine g_idiv (pc1 := 124) C d_M_behind_123 rfl nzi_2 ?_
        refine g_istore (pc1 := 126) (L1 := [(6, .int ((((μ.1 8) x5.toNatClampNeg) + (1 : Int32)) / (2 : Int32))), (4, .int (x4 ^^^ ((1 : Int32) <<< (x5 &&& 31)))), (0, .ref (a 0)), (5, .int x5)]) C d_M_behind_124 rfl (by decide) rfl ?_
        refine g_aload_n (pc1 := 127) C d_M_behind_126 rfl rfl 2 rfl ?_
        refine get_WM_0_pull (pc1 := 130) C hK kw_228 d_M_behind_127 rfl ?_
        refine g_aload_n (pc1 := 131) C d_M_behind_130 rfl rfl 2 rfl ?_
        refine g_iload (pc1 := 133) C d_M_behind_131 rfl 1 rfl ?_
        refine g_iload (pc1 := 135) C d_M_behind_133 rfl 3 rfl ?_
        refine g_iconst (pc1 := 136) (v := (1 : Int32)) C d_M_behind_135 rfl ic_1 ?_
        obtain ⟨r1, hr1, hF⟩ := bnd_some hF
        refine g_callVI (pc1 := 139) (ws1 := WM a cs (stI (stI μ 9 (μ.1 0 16).toNatClampNeg x5) 0 16 ((μ.1 0 16) + (1 : Int32)))) (As := [.int (x4 ^^^ ((1 : Int32) <<< (x5 &&& 31))), .int x5, .int (1 : Int32)]) (rest := [.ref (a 8)]) (b := a 0) C hK 3 (c_M_nextOf l D cs a (stI (stI μ 9 (μ.1 0 16).toNatClampNeg x5) 0 16 ((μ.1 0 16) + (1 : Int32))) (x4 ^^^ ((1 : Int32) <<< (x5 &&& 31))) x5 (1 : Int32) r1 hr1) s_M_nextOf kw_232 0 rfl rfl rfl ⟨Nat.le_of_ble_eq_true rfl, Nat.le_of_ble_eq_true rfl⟩ ⟨rfl, rfl⟩ d_M_behind_136 rfl rfl (Nat.le_of_ble_eq_true rfl) ?_
        refine g_dup2 (pc1 := 140) C d_M_behind_139 rfl rfl rfl ?_
        have hg := gd_some hF
        replace hF := hg.2
        refine g_iald (pc1 := 141) C hK 8 (f := (μ.1 8)) rfl hg.1 d_M_behind_140 rfl ?_
        refine g_iload (pc1 := 143) C d_M_behind_141 rfl 0 rfl ?_
        refine g_iadd (pc1 := 144) C d_M_behind_143 rfl ?_
        have hg := gd_some hF
        replace hF := hg.2
        refine g_iast (pc1 := 145) (ws1 := WM a cs (stI (stI (stI μ 9 (μ.1 0 16).toNatClampNeg x5) 0 16 ((μ.1 0 16) + (1 : Int32))) 8 r1.toNatClampNeg (((μ.1 8) r1.toNatClampNeg) + ((((μ.1 8) x5.toNatClampNeg) + (1 : Int32)) / (2 : Int32))))) C hK 8 (f := (μ.1 8)) rfl hg.1 (set_WM_8 _ _ _ _ _) d_M_behind_144 rfl ?_
        refine g_aload_n (pc1 := 146) C d_M_behind_145 rfl rfl 2 rfl ?_
        refine get_WM_0_pull (pc1 := 149) C hK kw_228 d_M_behind_146 rfl ?_
        refine g_aload_n (pc1 := 150) C d_M_behind_149 rfl rfl 2 rfl ?_
        refine g_iload (pc1 := 152) C d_M_behind_150 rfl 1 rfl ?_
        refine g_iload (pc1 := 154) C d_M_behind_152 rfl 3 rfl ?_
        refine g_iconst (pc1 := 155) (v := (-1 : Int32)) C d_M_behind_154 rfl ic_m1 ?_
        obtain ⟨r2, hr2, hF⟩ := bnd_some hF
        refine g_callVI (pc1 := 158) (ws1 := WM a cs (stI (stI (stI μ 9 (μ.1 0 16).toNatClampNeg x5) 0 16 ((μ.1 0 16) + (1 : Int32))) 8 r1.toNatClampNeg (((μ.1 8) r1.toNatClampNeg) + ((((μ.1 8) x5.toNatClampNeg) + (1 : Int32)) / (2 : Int32))))) (As := [.int (x4 ^^^ ((1 : Int32) <<< (x5 &&& 31))), .int x5, .int (-1 : Int32)]) (rest := [.ref (a 8)]) (b := a 0) C hK 3 (c_M_nextOf l D cs a (stI (stI (stI μ 9 (μ.1 0 16).toNatClampNeg x5) 0 16 ((μ.1 0 16) + (1 : Int32))) 8 r1.toNatClampNeg (((μ.1 8) r1.toNatClampNeg) + ((((μ.1 8) x5.toNatClampNeg) + (1 : Int32)) / (2 : Int32)))) (x4 ^^^ ((1 : Int32) <<< (x5 &&& 31))) x5 (-1 : Int32) r2 hr2) s_M_nextOf kw_232 0 rfl rfl rfl ⟨Nat.le_of_ble_eq_true rfl, Nat.le_of_ble_eq_true rfl⟩ ⟨rfl, rfl⟩ d_M_behind_155 rfl rfl (Nat.le_of_ble_eq_true rfl) ?_
        refine g_dup2 (pc1 := 159) C d_M_behind_158 rfl rfl rfl ?_
        have hg := gd_some hF
        replace hF := hg.2
        refine g_iald (pc1 := 160) C hK 8 (f := ((stI (stI (stI μ 9 (μ.1 0 16).toNatClampNeg x5) 0 16 ((μ.1 0 16) + (1 : Int32))) 8 r1.toNatClampNeg (((μ.1 8) r1.toNatClampNeg) + ((((μ.1 8) x5.toNatClampNeg) + (1 : Int32)) / (2 : Int32)))).1 8)) rfl hg.1 d_M_behind_159 rfl ?_
        refine g_aload_n (pc1 := 161) C d_M_behind_160 rfl rfl 2 rfl ?_
        refine get_WM_0_pull (pc1 := 164) C hK kw_228 d_M_behind_161 rfl ?_
        refine g_iload (pc1 := 166) C d_M_behind_164 rfl 3 rfl ?_
        have hg := gd_some hF
        replace hF := hg.2
        refine g_iald (pc1 := 167) C hK 8 (f := ((stI (stI (stI μ 9 (μ.1 0 16).toNatClampNeg x5) 0 16 ((μ.1 0 16) + (1 : Int32))) 8 r1.toNatClampNeg (((μ.1 8) r1.toNatClampNeg) + ((((μ.1 8) x5.toNatClampNeg) + (1 : Int32)) / (2 : Int32)))).1 8)) rfl hg.1 d_M_behind_166 rfl ?_
        refine g_iload (pc1 := 169) C d_M_behind_167 rfl 0 rfl ?_
        refine g_isub (pc1 := 170) C d_M_behind_169 rfl ?_
        refine g_iadd (pc1 := 171) C d_M_behind_170 rfl ?_
        have hg := gd_some hF
        replace hF := hg.2
        refine g_iast (pc1 := 172) (ws1 := WM a cs (stI (stI (stI (stI μ 9 (μ.1 0 16).toNatClampNeg x5) 0 16 ((μ.1 0 16) + (1 : Int32))) 8 r1.toNatClampNeg (((μ.1 8) r1.toNatClampNeg) + ((((μ.1 8) x5.toNatClampNeg) + (1 : Int32)) / (2 : Int32)))) 8 r2.toNatClampNeg ((((stI (stI (stI μ 9 (μ.1 0 16).toNatClampNeg x5) 0 16 ((μ.1 0 16) + (1 : Int32))) 8 r1.toNatClampNeg (((μ.1 8) r1.toNatClampNeg) + ((((μ.1 8) x5.toNatClampNeg) + (1 : Int32)) / (2 : Int32)))).1 8) r2.toNatClampNeg) + ((((stI (stI (stI μ 9 (μ.1 0 16).toNatClampNeg x5) 0 16 ((μ.1 0 16) + (1 : Int32))) 8 r1.toNatClampNeg (((μ.1 8) r1.toNatClampNeg) + ((((μ.1 8) x5.toNatClampNeg) + (1 : Int32)) / (2 : Int32)))).1 8) x5.toNatClampNeg) - ((((μ.1 8) x5.toNatClampNeg) + (1 : Int32)) / (2 : Int32)))))) C hK 8 (f := ((stI (stI (stI μ 9 (μ.1 0 16).toNatClampNeg x5) 0 16 ((μ.1 0 16) + (1 : Int32))) 8 r1.toNatClampNeg (((μ.1 8) r1.toNatClampNeg) + ((((μ.1 8) x5.toNatClampNeg) + (1 : Int32)) / (2 : Int32)))).1 8)) rfl hg.1 (set_WM_8 _ _ _ _ _) d_M_behind_171 rfl ?_
        exact g_sub [2, 1] rfl (p_M_behind_172 C hK hr hlk K72 hK72 (stI (stI (stI (stI μ 9 (μ.1 0 16).toNatClampNeg x5) 0 16 ((μ.1 0 16) + (1 : Int32))) 8 r1.toNatClampNeg (((μ.1 8) r1.toNatClampNeg) + ((((μ.1 8) x5.toNatClampNeg) + (1 : Int32)) / (2 : Int32)))) 8 r2.toNatClampNeg ((((stI (stI (stI μ 9 (μ.1 0 16).toNatClampNeg x5) 0 16 ((μ.1 0 16) + (1 : Int32))) 8 r1.toNatClampNeg (((μ.1 8) r1.toNatClampNeg) + ((((μ.1 8) x5.toNatClampNeg) + (1 : Int32)) / (2 : Int32)))).1 8) r2.toNatClampNeg) + ((((stI (stI (stI μ 9 (μ.1 0 16).toNatClampNeg x5) 0 16 ((μ.1 0 16) + (1 : Int32))) 8 r1.toNatClampNeg (((μ.1 8) r1.toNatClampNeg) + ((((μ.1 8) x5.toNatClampNeg) + (1 : Int32)) / (2 : Int32)))).1 8) x5.toNatClampNeg) - ((((μ.1 8) x5.toNatClampNeg) + (1 : Int32)) / (2 : Int32))))) (x4 ^^^ ((1 : Int32) <<< (x5 &&& 31))) hF)
set_option maxHeartbeats 4000000 in
set_option maxRecDepth 100000 in
theorem p_M_behind_11 {p : Program} {l : Launch} {e : Env} {s : State} {m : MethodId} {args : Array Value} {below : List Frame} {meth : Method} {c : Code} {D : va_G} {cs : Nat → ClassId} {a : Nat → Nat} {r : Int32} {μ1 : Mem} (C : Cx p s m args c b_M_behind 7 "TentPegsModel") (hK : va_K D classes (tys cs) s) (hr : meth.sig.returnType = (some .int)) (hlk : meth.locks = false)  : ∀ (μ : Mem) (x2 : Int32) (x3 : Int32) (x4 : Int32) (x5 : Int32), F_M_behind_11  μ x2 x3 x4 x5 = some (r, μ1) → G p l e { frames := 4, cells := 0, slots := 0, locals := 91 } s m args below meth c (MQ below (Qi (AM a) D (WM a cs μ1) r) args s 0 0 (AM a)) D (AM a) 7 (WM a cs μ) 11 [(0, .ref (a 0)), (2, .int x2), (3, .int x3), (4, .int x4), (5, .int x5)] [] := by
  refine iter_ind (fun (K11 : Mem → Int32 → Int32 → Int32 → Int32 → Option (Int32 × Mem)) => ∀ (μ : Mem) (x2 : Int32) (x3 : Int32) (x4 : Int32) (x5 : Int32), K11 μ x2 x3 x4 x5 = some (r, μ1) → G p l e { frames := 4, cells := 0, slots := 0, locals := 91 } s m args below meth c (MQ below (Qi (AM a) D (WM a cs μ1) r) args s 0 0 (AM a)) D (AM a) 7 (WM a cs μ) 11 [(0, .ref (a 0)), (2, .int x2), (3, .int x3), (4, .int x4), (5, .int x5)] []) ?_ ?_ NF
  · intro μ x2 x3 x4 x5 hF
    exact none_no hF
  · intro K11 hK11 μ x2 x3 x4 x5 hF
    unfold S_M_behind_11 at hF
    refine g_iload (pc1 := 13) C d_M_behind_11 rfl 4 rfl ?_
    refine g_aload_n (pc1 := 14) C d_M_behind_13 rfl rfl 0 rfl ?_
    refine get_WM_0_field (pc1 := 17) C hK kw_172 d_M_behind_14 rfl ?_
    refine g_iconst (pc1 := 18) (v := (0 : Int32)) C d_M_behind_17 rfl ic_0 ?_
    have hg := gd_some hF
    replace hF := hg.2
    refine g_iald (pc1 := 19) C hK 2 (f := (μ.1 2)) rfl hg.1 d_M_behind_18 rfl ?_
    refine g_icmp_ge (pc1 := 22) C 64 d_M_behind_19 rfl (by decide) (fun c1 => ?_) (fun c1 => ?_)
    · replace hF := ite_t hF c1
      refine g_aload_n (pc1 := 65) C d_M_behind_64 rfl rfl 0 rfl ?_
      refine g_iload (pc1 := 67) C d_M_behind_65 rfl 3 rfl ?_
      obtain ⟨r1, hr1, hF⟩ := bnd_some hF
      refine g_callVI (pc1 := 70) (ws1 := WM a cs μ) (As := [.int x4]) (rest := []) (b := a 0) C hK 1 (c_M_mostOf l D cs a μ x4 r1 hr1) s_M_mostOf kw_230 0 rfl rfl rfl ⟨Nat.le_of_ble_eq_true rfl, Nat.le_of_ble_eq_true rfl⟩ ⟨rfl, rfl⟩ d_M_behind_67 rfl rfl (Nat.le_of_ble_eq_true rfl) ?_
      refine g_istore (pc1 := 72) (L1 := [(5, .int r1), (0, .ref (a 0)), (2, .int x2), (3, .int x3), (4, .int x4)]) C d_M_behind_70 rfl (by decide) rfl ?_
      exact g_sub [1, 4, 0] rfl (p_M_behind_72 C hK hr hlk  μ x4 r1 hF)
    · replace hF := ite_f hF c1
      refine g_aload_n (pc1 := 23) C d_M_behind_22 rfl rfl 0 rfl ?_
      refine get_WM_0_pull (pc1 := 26) C hK kw_228 d_M_behind_23 rfl ?_
      refine g_iload (pc1 := 28) C d_M_behind_26 rfl 4 rfl ?_
      refine g_iload (pc1 := 30) C d_M_behind_28 rfl 3 rfl ?_
      refine g_iload (pc1 := 32) C d_M_behind_30 rfl 4 rfl ?_
      obtain ⟨r2, hr2, hF⟩ := bnd_some hF
      refine g_callSI (pc1 := 35) (As := [.int x4, .int x5]) (rest := [.int x5, .ref (a 8)]) C 2 (c_M_has l x4 x5 r2 hr2) s_M_has kw_188 rfl ⟨Nat.le_of_ble_eq_true rfl, Nat.le_of_ble_eq_true rfl⟩ ⟨rfl, rfl⟩ d_M_behind_32 rfl rfl (Nat.le_of_ble_eq_true rfl) ?_
      refine g_if_eq (pc1 := 38) C 56 d_M_behind_35 rfl (by decide) (fun c1 => ?_) (fun c1 => ?_)
      · replace hF := ite_t hF c1
        refine g_iconst (pc1 := 57) (v := (0 : Int32)) C d_M_behind_56 rfl ic_0 ?_
        have hg := gd_some hF
        replace hF := hg.2
        refine g_iast (pc1 := 58) (ws1 := WM a cs (stI μ 8 x5.toNatClampNeg (0 : Int32))) C hK 8 (f := (μ.1 8)) rfl hg.1 (set_WM_8 _ _ _ _ _) d_M_behind_57 rfl ?_
        refine g_iinc (pc1 := 61) (v := (x5 + (1 : Int32))) (L1 := [(5, .int (x5 + (1 : Int32))), (0, .ref (a 0)), (2, .int x2), (3, .int x3), (4, .int x4)]) C d_M_behind_58 rfl 4 rfl (by rw [ic_1]) (by decide) rfl ?_
        refine g_goto C 11 d_M_behind_61 (by decide) ?_
        exact g_sub [1, 2, 3, 4, 0] rfl (hK11 (stI μ 8 x5.toNatClampNeg (0 : Int32)) x2 x3 x4 (x5 + (1 : Int32)) hF)
      · replace hF := ite_f hF c1
        refine g_aload_n (pc1 := 39) C d_M_behind_38 rfl rfl 0 rfl ?_
        refine g_iload (pc1 := 41) C d_M_behind_39 rfl 4 rfl ?_
        refine g_iload_n (pc1 := 42) C d_M_behind_41 rfl rfl 1 rfl ?_
        refine g_iload_n (pc1 := 43) C d_M_behind_42 rfl rfl 2 rfl ?_
        refine g_iconst (pc1 := 44) (v := (0 : Int32)) C d_M_behind_43 rfl ic_0 ?_
        refine g_aload_n (pc1 := 45) C d_M_behind_44 rfl rfl 0 rfl ?_
        refine get_WM_0_field (pc1 := 48) C hK kw_172 d_M_behind_45 rfl ?_
        refine g_iconst (pc1 := 49) (v := (3 : Int32)) C d_M_behind_48 rfl ic_3 ?_
        have hg := gd_some hF
        replace hF := hg.2
        refine g_iald (pc1 := 50) C hK 2 (f := (μ.1 2)) rfl hg.1 d_M_behind_49 rfl ?_
        obtain ⟨r3, hr3, hF⟩ := bnd_some hF
        refine g_callVI (pc1 := 53) (ws1 := WM a cs μ) (As := [.int x5, .int x2, .int x3, .int (0 : Int32), .int ((μ.1 2) (3 : Int32).toNatClampNeg)]) (rest := [.int x5, .ref (a 8)]) (b := a 0) C hK 5 (c_M_pullOf l D cs a μ x5 x2 x3 (0 : Int32) ((μ.1 2) (3 : Int32).toNatClampNeg) r3 hr3) s_M_pullOf kw_225 0 rfl rfl rfl ⟨Nat.le_of_ble_eq_true rfl, Nat.le_of_ble_eq_true rfl⟩ ⟨rfl, rfl⟩ d_M_behind_50 rfl rfl (Nat.le_of_ble_eq_true rfl) ?_
        refine g_goto C 57 d_M_behind_53 (by decide) ?_
        have hg := gd_some hF
        replace hF := hg.2
        refine g_iast (pc1 := 58) (ws1 := WM a cs (stI μ 8 x5.toNatClampNeg r3)) C hK 8 (f := (μ.1 8)) rfl hg.1 (set_WM_8 _ _ _ _ _) d_M_behind_57 rfl ?_
        refine g_iinc (pc1 := 61) (v := (x5 + (1 : Int32))) (L1 := [(5, .int (x5 + (1 : Int32))), (0, .ref (a 0)), (2, .int x2), (3, .int x3), (4, .int x4)]) C d_M_behind_58 rfl 4 rfl (by rw [ic_1]) (by decide) rfl ?_
        refine g_goto C 11 d_M_behind_61 (by decide) ?_
        exact g_sub [1, 2, 3, 4, 0] rfl (hK11 (stI μ 8 x5.toNatClampNeg r3) x2 x3 x4 (x5 + (1 : Int32)) hF)
set_option maxHeartbeats 4000000 in
set_option maxRecDepth 100000 in
theorem c_M_behind (l : Launch) (D : va_G) (cs : Nat → ClassId) (a : Nat → Nat) (μ : Mem) (x1 : Int32) (x2 : Int32) (x3 : Int32) (r : Int32) (μ1 : Mem) (hF : F_M_behind μ x1 x2 x3 = some (r, μ1)) : MetI l y_M_behind b_M_behind 7 (some .int) { frames := 4, cells := 0, slots := 0, locals := 91 } D cs (AM a) (WM a cs μ) [.ref (a 0), .int x1, .int x2, .int x3] r (WM a cs μ1) := by
  refine met_of rfl (by decide +kernel) (Nat.le_of_ble_eq_true rfl) (fun p e s m below meth c C hK hr hlk => ?_)
  unfold F_M_behind at hF
  show G p l e { frames := 4, cells := 0, slots := 0, locals := 91 } s m _ below meth c _ D (AM a) 7 (WM a cs μ) 0 [(0, .ref (a 0)), (1, .int x1), (2, .int x2), (3, .int x3)] []
  refine g_iload_n (pc1 := 1) C d_M_behind_0 rfl rfl 1 rfl ?_
  refine g_istore (pc1 := 3) (L1 := [(4, .int x1), (0, .ref (a 0)), (1, .int x1), (2, .int x2), (3, .int x3)]) C d_M_behind_1 rfl (by decide) rfl ?_
  refine g_aload_n (pc1 := 4) C d_M_behind_3 rfl rfl 1 rfl ?_
  refine g_iconst (pc1 := 5) (v := (0 : Int32)) C d_M_behind_4 rfl ic_0 ?_
  refine put_WM_0_gone (pc1 := 8) C hK kw_229 d_M_behind_5 rfl ?_
  refine g_iconst (pc1 := 9) (v := (0 : Int32)) C d_M_behind_8 rfl ic_0 ?_
  refine g_istore (pc1 := 11) (L1 := [(5, .int (0 : Int32)), (4, .int x1), (0, .ref (a 0)), (1, .int x1), (2, .int x2), (3, .int x3)]) C d_M_behind_9 rfl (by decide) rfl ?_
  exact g_sub [2, 4, 5, 1, 0] rfl (p_M_behind_11 C hK hr hlk  (stI μ 0 16 (0 : Int32)) x2 x3 x1 (0 : Int32) hF)
-- TentPegsModel.keepStood()V
set_option maxHeartbeats 4000000 in
set_option maxRecDepth 100000 in
theorem p_M_keepStood_55 {p : Program} {l : Launch} {e : Env} {s : State} {m : MethodId} {args : Array Value} {below : List Frame} {meth : Method} {c : Code} {D : va_G} {cs : Nat → ClassId} {a : Nat → Nat} {μ1 : Mem} (C : Cx p s m args c b_M_keepStood 2 "TentPegsModel") (hK : va_K D classes (tys cs) s) (hr : meth.sig.returnType = none) (hlk : meth.locks = false)  (μ : Mem)  (hF : F_M_keepStood_55  μ = some μ1) : G p l e { frames := 0, cells := 0, slots := 0, locals := 0 } s m args below meth c (MQ below (Qv (AM a) D (WM a cs μ1)) args s 0 0 (AM a)) D (AM a) 2 (WM a cs μ) 55 [(0, .ref (a 0))] [] := by
  unfold F_M_keepStood_55 at hF
  refine g_aload_n (pc1 := 56) C d_M_keepStood_55 rfl rfl 0 rfl ?_
  refine get_WM_0_field (pc1 := 59) C hK kw_172 d_M_keepStood_56 rfl ?_
  refine g_bipush (pc1 := 61) (v := (37 : Int32)) C d_M_keepStood_59 rfl bp_37 ?_
  refine g_aload_n (pc1 := 62) C d_M_keepStood_61 rfl rfl 0 rfl ?_
  refine get_WM_0_field (pc1 := 65) C hK kw_172 d_M_keepStood_62 rfl ?_
  refine g_iconst (pc1 := 66) (v := (4 : Int32)) C d_M_keepStood_65 rfl ic_4 ?_
  have hg := gd_some hF
  replace hF := hg.2
  refine g_iald (pc1 := 67) C hK 2 (f := (μ.1 2)) rfl hg.1 d_M_keepStood_66 rfl ?_
  refine g_iadd (pc1 := 68) C d_M_keepStood_67 rfl ?_
  refine g_aload_n (pc1 := 69) C d_M_keepStood_68 rfl rfl 0 rfl ?_
  refine get_WM_0_field (pc1 := 72) C hK kw_172 d_M_keepStood_69 rfl ?_
  refine g_iconst (pc1 := 73) (v := (1 : Int32)) C d_M_keepStood_72 rfl ic_1 ?_
  have hg := gd_some hF
  replace hF := hg.2
  refine g_iald (pc1 := 74) C hK 2 (f := (μ.1 2)) rfl hg.1 d_M_keepStood_73 rfl ?_
  have hg := gd_some hF
  replace hF := hg.2
  refine g_iast (pc1 := 75) (ws1 := WM a cs (stI μ 2 ((37 : Int32) + ((μ.1 2) (4 : Int32).toNatClampNeg)).toNatClampNeg ((μ.1 2) (1 : Int32).toNatClampNeg))) C hK 2 (f := (μ.1 2)) rfl hg.1 (set_WM_2 _ _ _ _ _) d_M_keepStood_74 rfl ?_
  refine g_aload_n (pc1 := 76) C d_M_keepStood_75 rfl rfl 0 rfl ?_
  refine get_WM_0_field (pc1 := 79) C hK kw_172 d_M_keepStood_76 rfl ?_
  refine g_iconst (pc1 := 80) (v := (4 : Int32)) C d_M_keepStood_79 rfl ic_4 ?_
  refine g_dup2 (pc1 := 81) C d_M_keepStood_80 rfl rfl rfl ?_
  have hg := gd_some hF
  replace hF := hg.2
  refine g_iald (pc1 := 82) C hK 2 (f := ((stI μ 2 ((37 : Int32) + ((μ.1 2) (4 : Int32).toNatClampNeg)).toNatClampNeg ((μ.1 2) (1 : Int32).toNatClampNeg)).1 2)) rfl hg.1 d_M_keepStood_81 rfl ?_
  refine g_iconst (pc1 := 83) (v := (1 : Int32)) C d_M_keepStood_82 rfl ic_1 ?_
  refine g_iadd (pc1 := 84) C d_M_keepStood_83 rfl ?_
  have hg := gd_some hF
  replace hF := hg.2
  refine g_iast (pc1 := 85) (ws1 := WM a cs (stI (stI μ 2 ((37 : Int32) + ((μ.1 2) (4 : Int32).toNatClampNeg)).toNatClampNeg ((μ.1 2) (1 : Int32).toNatClampNeg)) 2 (4 : Int32).toNatClampNeg ((((stI μ 2 ((37 : Int32) + ((μ.1 2) (4 : Int32).toNatClampNeg)).toNatClampNeg ((μ.1 2) (1 : Int32).toNatClampNeg)).1 2) (4 : Int32).toNatClampNeg) + (1 : Int32)))) C hK 2 (f := ((stI μ 2 ((37 : Int32) + ((μ.1 2) (4 : Int32).toNatClampNeg)).toNatClampNeg ((μ.1 2) (1 : Int32).toNatClampNeg)).1 2)) rfl hg.1 (set_WM_2 _ _ _ _ _) d_M_keepStood_84 rfl ?_
  exact g_vret C hr hlk d_M_keepStood_85 (congrArg (WM a cs) (Option.some.inj hF))
set_option maxHeartbeats 4000000 in
set_option maxRecDepth 100000 in
theorem p_M_keepStood_13 {p : Program} {l : Launch} {e : Env} {s : State} {m : MethodId} {args : Array Value} {below : List Frame} {meth : Method} {c : Code} {D : va_G} {cs : Nat → ClassId} {a : Nat → Nat} {μ1 : Mem} (C : Cx p s m args c b_M_keepStood 2 "TentPegsModel") (hK : va_K D classes (tys cs) s) (hr : meth.sig.returnType = none) (hlk : meth.locks = false)  : ∀ (μ : Mem) (x1 : Int32), F_M_keepStood_13  μ x1 = some μ1 → G p l e { frames := 0, cells := 0, slots := 0, locals := 0 } s m args below meth c (MQ below (Qv (AM a) D (WM a cs μ1)) args s 0 0 (AM a)) D (AM a) 2 (WM a cs μ) 13 [(0, .ref (a 0)), (1, .int x1)] [] := by
  refine iter_ind (fun (K13 : Mem → Int32 → Option Mem) => ∀ (μ : Mem) (x1 : Int32), K13 μ x1 = some μ1 → G p l e { frames := 0, cells := 0, slots := 0, locals := 0 } s m args below meth c (MQ below (Qv (AM a) D (WM a cs μ1)) args s 0 0 (AM a)) D (AM a) 2 (WM a cs μ) 13 [(0, .ref (a 0)), (1, .int x1)] []) ?_ ?_ NF
  · intro μ x1 hF
    exact none_no hF
  · intro K13 hK13 μ x1 hF
    unfold S_M_keepStood_13 at hF
    refine g_iload_n (pc1 := 14) C d_M_keepStood_13 rfl rfl 1 rfl ?_
    refine g_bipush (pc1 := 16) (v := (9 : Int32)) C d_M_keepStood_14 rfl bp_9 ?_
    refine g_icmp_ge (pc1 := 19) C 45 d_M_keepStood_16 rfl (by decide) (fun c1 => ?_) (fun c1 => ?_)
    · replace hF := ite_t hF c1
      refine g_aload_n (pc1 := 46) C d_M_keepStood_45 rfl rfl 0 rfl ?_
      refine get_WM_0_field (pc1 := 49) C hK kw_172 d_M_keepStood_46 rfl ?_
      refine g_iconst (pc1 := 50) (v := (4 : Int32)) C d_M_keepStood_49 rfl ic_4 ?_
      refine g_dup2 (pc1 := 51) C d_M_keepStood_50 rfl rfl rfl ?_
      have hg := gd_some hF
      replace hF := hg.2
      refine g_iald (pc1 := 52) C hK 2 (f := (μ.1 2)) rfl hg.1 d_M_keepStood_51 rfl ?_
      refine g_iconst (pc1 := 53) (v := (1 : Int32)) C d_M_keepStood_52 rfl ic_1 ?_
      refine g_isub (pc1 := 54) C d_M_keepStood_53 rfl ?_
      have hg := gd_some hF
      replace hF := hg.2
      refine g_iast (pc1 := 55) (ws1 := WM a cs (stI μ 2 (4 : Int32).toNatClampNeg (((μ.1 2) (4 : Int32).toNatClampNeg) - (1 : Int32)))) C hK 2 (f := (μ.1 2)) rfl hg.1 (set_WM_2 _ _ _ _ _) d_M_keepStood_54 rfl ?_
      exact g_sub [0] rfl (p_M_keepStood_55 C hK hr hlk  (stI μ 2 (4 : Int32).toNatClampNeg (((μ.1 2) (4 : Int32).toNatClampNeg) - (1 : Int32))) hF)
    · replace hF := ite_f hF c1
      refine g_aload_n (pc1 := 20) C d_M_keepStood_19 rfl rfl 0 rfl ?_
      refine get_WM_0_field (pc1 := 23) C hK kw_172 d_M_keepStood_20 rfl ?_
      refine g_bipush (pc1 := 25) (v := (37 : Int32)) C d_M_keepStood_23 rfl bp_37 ?_
      refine g_iload_n (pc1 := 26) C d_M_keepStood_25 rfl rfl 1 rfl ?_
      refine g_iadd (pc1 := 27) C d_M_keepStood_26 rfl ?_
      refine g_aload_n (pc1 := 28) C d_M_keepStood_27 rfl rfl 0 rfl ?_
      refine get_WM_0_field (pc1 := 31) C hK kw_172 d_M_keepStood_28 rfl ?_
      refine g_bipush (pc1 := 33) (v := (37 : Int32)) C d_M_keepStood_31 rfl bp_37 ?_
      refine g_iload_n (pc1 := 34) C d_M_keepStood_33 rfl rfl 1 rfl ?_
      refine g_iadd (pc1 := 35) C d_M_keepStood_34 rfl ?_
      refine g_iconst (pc1 := 36) (v := (1 : Int32)) C d_M_keepStood_35 rfl ic_1 ?_
      refine g_iadd (pc1 := 37) C d_M_keepStood_36 rfl ?_
      have hg := gd_some hF
      replace hF := hg.2
      refine g_iald (pc1 := 38) C hK 2 (f := (μ.1 2)) rfl hg.1 d_M_keepStood_37 rfl ?_
      have hg := gd_some hF
      replace hF := hg.2
      refine g_iast (pc1 := 39) (ws1 := WM a cs (stI μ 2 ((37 : Int32) + x1).toNatClampNeg ((μ.1 2) (((37 : Int32) + x1) + (1 : Int32)).toNatClampNeg))) C hK 2 (f := (μ.1 2)) rfl hg.1 (set_WM_2 _ _ _ _ _) d_M_keepStood_38 rfl ?_
      refine g_iinc (pc1 := 42) (v := (x1 + (1 : Int32))) (L1 := [(1, .int (x1 + (1 : Int32))), (0, .ref (a 0))]) C d_M_keepStood_39 rfl 1 rfl (by rw [ic_1]) (by decide) rfl ?_
      refine g_goto C 13 d_M_keepStood_42 (by decide) ?_
      exact g_sub [1, 0] rfl (hK13 (stI μ 2 ((37 : Int32) + x1).toNatClampNeg ((μ.1 2) (((37 : Int32) + x1) + (1 : Int32)).toNatClampNeg)) (x1 + (1 : Int32)) hF)
set_option maxHeartbeats 4000000 in
set_option maxRecDepth 100000 in
theorem c_M_keepStood (l : Launch) (D : va_G) (cs : Nat → ClassId) (a : Nat → Nat) (μ : Mem)  (μ1 : Mem) (hF : F_M_keepStood μ = some μ1) : MetV l y_M_keepStood b_M_keepStood 2 none { frames := 0, cells := 0, slots := 0, locals := 0 } D cs (AM a) (WM a cs μ) [.ref (a 0)] (WM a cs μ1) := by
  refine met_of rfl (by decide +kernel) (Nat.le_of_ble_eq_true rfl) (fun p e s m below meth c C hK hr hlk => ?_)
  unfold F_M_keepStood at hF
  show G p l e { frames := 0, cells := 0, slots := 0, locals := 0 } s m _ below meth c _ D (AM a) 2 (WM a cs μ) 0 [(0, .ref (a 0))] []
  refine g_aload_n (pc1 := 1) C d_M_keepStood_0 rfl rfl 0 rfl ?_
  refine get_WM_0_field (pc1 := 4) C hK kw_172 d_M_keepStood_1 rfl ?_
  refine g_iconst (pc1 := 5) (v := (4 : Int32)) C d_M_keepStood_4 rfl ic_4 ?_
  have hg := gd_some hF
  replace hF := hg.2
  refine g_iald (pc1 := 6) C hK 2 (f := (μ.1 2)) rfl hg.1 d_M_keepStood_5 rfl ?_
  refine g_bipush (pc1 := 8) (v := (10 : Int32)) C d_M_keepStood_6 rfl bp_10 ?_
  refine g_icmp_ne (pc1 := 11) C 55 d_M_keepStood_8 rfl (by decide) (fun c1 => ?_) (fun c1 => ?_)
  · replace hF := ite_f hF c1
    exact g_sub [0] rfl (p_M_keepStood_55 C hK hr hlk  μ hF)
  · replace hF := ite_t hF c1
    refine g_iconst (pc1 := 12) (v := (0 : Int32)) C d_M_keepStood_11 rfl ic_0 ?_
    refine g_istore_n (pc1 := 13) (L1 := [(1, .int (0 : Int32)), (0, .ref (a 0))]) C d_M_keepStood_12 rfl rfl (by decide) rfl ?_
    exact g_sub [1, 0] rfl (p_M_keepStood_13 C hK hr hlk  μ (0 : Int32) hF)
-- TentPegsModel.gust(II)I
set_option maxHeartbeats 4000000 in
set_option maxRecDepth 100000 in
theorem c_M_gust (l : Launch) (D : va_G) (cs : Nat → ClassId) (a : Nat → Nat) (μ : Mem) (x1 : Int32) (x2 : Int32) (r : Int32) (μ1 : Mem) (hF : F_M_gust μ x1 x2 = some (r, μ1)) : MetI l y_M_gust b_M_gust 3 (some .int) { frames := 5, cells := 0, slots := 0, locals := 117 } D cs (AM a) (WM a cs μ) [.ref (a 0), .int x1, .int x2] r (WM a cs μ1) := by
  refine met_of rfl (by decide +kernel) (Nat.le_of_ble_eq_true rfl) (fun p e s m below meth c C hK hr hlk => ?_)
  unfold F_M_gust at hF
  show G p l e { frames := 5, cells := 0, slots := 0, locals := 117 } s m _ below meth c _ D (AM a) 3 (WM a cs μ) 0 [(0, .ref (a 0)), (1, .int x1), (2, .int x2)] []
  refine g_aload_n (pc1 := 1) C d_M_gust_0 rfl rfl 0 rfl ?_
  refine g_iconst (pc1 := 2) (v := (0 : Int32)) C d_M_gust_1 rfl ic_0 ?_
  refine put_WM_0_thrown (pc1 := 5) C hK kw_178 d_M_gust_2 rfl ?_
  refine g_iload_n (pc1 := 6) C d_M_gust_5 rfl rfl 1 rfl ?_
  refine g_iload_n (pc1 := 7) C d_M_gust_6 rfl rfl 2 rfl ?_
  obtain ⟨r1, hr1, hF⟩ := bnd_some hF
  refine g_callSI (pc1 := 10) (As := [.int x1, .int x2]) (rest := []) C 2 (c_M_noGust l x1 x2 r1 hr1) s_M_noGust kw_233 rfl ⟨Nat.le_of_ble_eq_true rfl, Nat.le_of_ble_eq_true rfl⟩ ⟨rfl, rfl⟩ d_M_gust_7 rfl rfl (Nat.le_of_ble_eq_true rfl) ?_
  refine g_if_eq (pc1 := 13) C 18 d_M_gust_10 rfl (by decide) (fun c1 => ?_) (fun c1 => ?_)
  · replace hF := ite_t hF c1
    refine g_aload_n (pc1 := 19) C d_M_gust_18 rfl rfl 0 rfl ?_
    obtain ⟨r2, hr2, hF⟩ := bnd_some hF
    refine g_callVI (pc1 := 22) (ws1 := WM a cs (stI μ 0 0 (0 : Int32))) (As := []) (rest := []) (b := a 0) C hK 0 (c_M_isLost l D cs a (stI μ 0 0 (0 : Int32))  r2 hr2) s_M_isLost kw_234 0 rfl rfl rfl ⟨Nat.le_of_ble_eq_true rfl, Nat.le_of_ble_eq_true rfl⟩ ⟨rfl, rfl⟩ d_M_gust_19 rfl rfl (Nat.le_of_ble_eq_true rfl) ?_
    refine g_if_eq (pc1 := 25) C 30 d_M_gust_22 rfl (by decide) (fun c1 => ?_) (fun c1 => ?_)
    · replace hF := ite_t hF c1
      refine g_aload_n (pc1 := 31) C d_M_gust_30 rfl rfl 0 rfl ?_
      obtain ⟨m3, hm3, hF⟩ := bnd_some hF
      refine g_callVV (pc1 := 34) (ws1 := WM a cs m3) (As := []) (rest := []) (b := a 0) C hK 0 (c_M_keepStood l D cs a (stI μ 0 0 (0 : Int32))  m3 hm3) s_M_keepStood kw_235 0 rfl rfl rfl ⟨Nat.le_of_ble_eq_true rfl, Nat.le_of_ble_eq_true rfl⟩ ⟨rfl, rfl⟩ d_M_gust_31 rfl rfl (Nat.le_of_ble_eq_true rfl) ?_
      refine g_aload_n (pc1 := 35) C d_M_gust_34 rfl rfl 0 rfl ?_
      refine get_WM_0_field (pc1 := 38) C hK kw_172 d_M_gust_35 rfl ?_
      refine g_iconst (pc1 := 39) (v := (1 : Int32)) C d_M_gust_38 rfl ic_1 ?_
      refine g_aload_n (pc1 := 40) C d_M_gust_39 rfl rfl 0 rfl ?_
      refine g_aload_n (pc1 := 41) C d_M_gust_40 rfl rfl 0 rfl ?_
      refine get_WM_0_field (pc1 := 44) C hK kw_172 d_M_gust_41 rfl ?_
      refine g_iconst (pc1 := 45) (v := (1 : Int32)) C d_M_gust_44 rfl ic_1 ?_
      have hg := gd_some hF
      replace hF := hg.2
      refine g_iald (pc1 := 46) C hK 2 (f := (m3.1 2)) rfl hg.1 d_M_gust_45 rfl ?_
      refine g_iload_n (pc1 := 47) C d_M_gust_46 rfl rfl 1 rfl ?_
      refine g_iload_n (pc1 := 48) C d_M_gust_47 rfl rfl 2 rfl ?_
      obtain ⟨⟨r4, m4⟩, hm4, hF⟩ := bnd_some hF
      refine g_callVI (pc1 := 51) (ws1 := WM a cs m4) (As := [.int ((m3.1 2) (1 : Int32).toNatClampNeg), .int x1, .int x2]) (rest := [.int (1 : Int32), .ref (a 2)]) (b := a 0) C hK 3 (c_M_behind l D cs a m3 ((m3.1 2) (1 : Int32).toNatClampNeg) x1 x2 r4 m4 hm4) s_M_behind kw_236 0 rfl rfl rfl ⟨Nat.le_of_ble_eq_true rfl, Nat.le_of_ble_eq_true rfl⟩ ⟨rfl, rfl⟩ d_M_gust_48 rfl rfl (Nat.le_of_ble_eq_true rfl) ?_
      have hg := gd_some hF
      replace hF := hg.2
      refine g_iast (pc1 := 52) (ws1 := WM a cs (stI m4 2 (1 : Int32).toNatClampNeg r4)) C hK 2 (f := (m4.1 2)) rfl hg.1 (set_WM_2 _ _ _ _ _) d_M_gust_51 rfl ?_
      refine g_aload_n (pc1 := 53) C d_M_gust_52 rfl rfl 0 rfl ?_
      refine get_WM_0_gone (pc1 := 56) C hK (v := (m4.1 0 16)) rfl kw_229 d_M_gust_53 rfl ?_
      exact g_iret C hr hlk d_M_gust_56 (fst_of hF) (congrArg (WM a cs) (snd_of hF))
    · replace hF := ite_f hF c1
      refine g_aload_n (pc1 := 26) C d_M_gust_25 rfl rfl 0 rfl ?_
      obtain ⟨⟨r5, m5⟩, hm5, hF⟩ := bnd_some hF
      refine g_callVI (pc1 := 29) (ws1 := WM a cs m5) (As := []) (rest := []) (b := a 0) C hK 0 (c_M_no l D cs a (stI μ 0 0 (0 : Int32))  r5 m5 hm5) s_M_no kw_189 0 rfl rfl rfl ⟨Nat.le_of_ble_eq_true rfl, Nat.le_of_ble_eq_true rfl⟩ ⟨rfl, rfl⟩ d_M_gust_26 rfl rfl (Nat.le_of_ble_eq_true rfl) ?_
      exact g_iret C hr hlk d_M_gust_29 (fst_of hF) (congrArg (WM a cs) (snd_of hF))
  · replace hF := ite_f hF c1
    refine g_aload_n (pc1 := 14) C d_M_gust_13 rfl rfl 0 rfl ?_
    obtain ⟨⟨r6, m6⟩, hm6, hF⟩ := bnd_some hF
    refine g_callVI (pc1 := 17) (ws1 := WM a cs m6) (As := []) (rest := []) (b := a 0) C hK 0 (c_M_bad l D cs a (stI μ 0 0 (0 : Int32))  r6 m6 hm6) s_M_bad kw_182 0 rfl rfl rfl ⟨Nat.le_of_ble_eq_true rfl, Nat.le_of_ble_eq_true rfl⟩ ⟨rfl, rfl⟩ d_M_gust_14 rfl rfl (Nat.le_of_ble_eq_true rfl) ?_
    exact g_iret C hr hlk d_M_gust_17 (fst_of hF) (congrArg (WM a cs) (snd_of hF))
