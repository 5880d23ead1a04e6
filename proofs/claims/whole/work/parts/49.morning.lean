/-! Pure part (20): the morning after. -/
def mst (t : Nat → Nat) (y : Int32) (v s : Nat) (p : Int32 × Int32) : Int32 × Int32 := if nI (gustS t (t 1) v s).1 = y then (p.1 + 1, if p.1 = 0 then 100 * nI v + nI s else p.2) else p
def lbI (t : Nat → Nat) (y : Int32) (v : Nat) : Nat → Nat → Int32 × Int32 → Int32 × Int32
  | 0, _, p => p
  | d + 1, s, p => lbI t y v d (s + 1) (mst t y v s p)
def lbO (t : Nat → Nat) (y : Int32) : Nat → Nat → Int32 × Int32 → Int32 × Int32
  | 0, _, p => p
  | d + 1, v, p => lbO t y d (v + 1) (lbI t y v 61 0 p)
theorem GB.st10 {μ : Mem} {t : Nat → Nat} {st j : Nat} {v : Int32} (h : GB μ t st) : GB (stI μ 10 j v) t st := by
  obtain ⟨b1, b2, b3, b4, b5, b6, b7, b8, b9, b10⟩ := h
  exact ⟨b1.keep (fun j q r => stI_ne _ _ _ (by omega)), b2, b3, b4, b5, b6, by rw [stI_ne _ _ _ (by decide)]; exact b7, by rw [stI_ne _ _ _ (by decide)]; exact b8, by rw [stI_ne _ _ _ (by decide)]; exact b9, by rw [stI_ne _ _ _ (by decide)]; exact b10⟩
theorem C_lbI {t : Nat → Nat} {y : Int32} {v : Nat} (hv : v < 8) (K : Mem → Int32 → Int32 → Option Mem) : ∀ d, d < 1000 → ∀ (μ : Mem) (st s : Nat) (p : Int32 × Int32), GB μ t st → μ.1 10 4 = p.1 → μ.1 10 5 = p.2 → s + d = 61 → ∃ m st', F_P_lookBack_33 K μ y (nI v) (nI s) = K m y (nI (v + 1)) ∧ GB m t st' ∧ m.1 10 4 = (lbI t y v d s p).1 ∧ m.1 10 5 = (lbI t y v d s p).2 ∧ SC μ m := by
  refine fun d hd => iter_run (fun d (g : Mem → Int32 → Int32 → Int32 → Option Mem) => ∀ (μ : Mem) (st s : Nat) (p : Int32 × Int32), GB μ t st → μ.1 10 4 = p.1 → μ.1 10 5 = p.2 → s + d = 61 → ∃ m st', g μ y (nI v) (nI s) = K m y (nI (v + 1)) ∧ GB m t st' ∧ m.1 10 4 = (lbI t y v d s p).1 ∧ m.1 10 5 = (lbI t y v d s p).2 ∧ SC μ m) ?_ ?_ NF d (NF_lt hd)
  · intro g μ st s p h h4 h5 hs
    unfold S_P_lookBack_33
    rw [lit 60, if_pos ((nI_ltI (by omega) (by omega)).mpr (by omega)), lit 1, nI_add]
    exact ⟨μ, st, rfl, h, h4, h5, SC.rf μ⟩
  · intro d g ih μ st s p h h4 h5 hs
    have w : Wf t := h.2.1
    have h' : GB (stI μ 7 4 (nI (t 1))) t (t 1) := GB.mk2 h (K789.i7 μ 4 _ (by omega)) (by rw [stI_same, upd_same]) w.2.2.1
    obtain ⟨m1, b1, b2, b3, b4, b5⟩ := C_blow h' hv (show s ≤ 60 by omega)
    have hb : GB m1 t (gustS t (t 1) v s).1 := GB.mk2 h' b2 b3 (gustS_lt w w.2.2.1)
    have h4' : m1.1 10 4 = p.1 := by rw [b2.1 10 (by decide) (by decide) (by decide), stI_ne _ _ _ (by decide)]; exact h4
    have h5' : m1.1 10 5 = p.2 := by rw [b2.1 10 (by decide) (by decide) (by decide), stI_ne _ _ _ (by decide)]; exact h5
    have hsc : SC μ m1 := (SC.st (by omega)).tr (SC.of789 b2)
    unfold S_P_lookBack_33 F_P_lookBack_97
    rw [lit 60, if_neg (fun q => by have := (nI_ltI (by omega) (by omega)).mp q; omega), show μ.1 1 3 = nI (t 1) from h.1.1.2.2.2.1, b1, bnd_s, b3, h4', h5', show nI s + 1 = nI (s + 1) from nI_add s 1]
    show ∃ m st', _ = K m y (nI (v + 1)) ∧ GB m t st' ∧ m.1 10 4 = (lbI t y v d (s + 1) (mst t y v s p)).1 ∧ m.1 10 5 = (lbI t y v d (s + 1) (mst t y v s p)).2 ∧ SC μ m
    unfold mst
    by_cases c : nI (gustS t (t 1) v s).1 = y
    · rw [if_pos c, if_pos c]
      have go1 : ∀ z : Int32, ∃ m st', g (stI (stI m1 10 5 z) 10 4 (p.1 + 1)) y (nI v) (nI (s + 1)) = K m y (nI (v + 1)) ∧ GB m t st' ∧ m.1 10 4 = (lbI t y v d (s + 1) (p.1 + 1, z)).1 ∧ m.1 10 5 = (lbI t y v d (s + 1) (p.1 + 1, z)).2 ∧ SC μ m := by
        intro z
        obtain ⟨m, st', e1, e2, e3, e5, e6⟩ := ih (stI (stI m1 10 5 z) 10 4 (p.1 + 1)) _ (s + 1) (p.1 + 1, z) hb.st10.st10 (by rw [stI_same, upd_same]) (by rw [stI_same, upd_ne _ _ (by decide), stI_same, upd_same]) (by omega)
        exact ⟨m, st', e1, e2, e3, e5, hsc.tr ((SC.st (by omega)).tr ((SC.st (by omega)).tr e6))⟩
      by_cases c0 : p.1 = 0
      · rw [if_pos c0, if_pos c0]; exact go1 _
      · rw [if_neg c0, if_neg c0]; exact go1 _
    · rw [if_neg c, if_neg c]
      obtain ⟨m, st', e1, e2, e3, e5, e6⟩ := ih m1 _ (s + 1) p hb h4' h5' (by omega)
      exact ⟨m, st', e1, e2, e3, e5, hsc.tr e6⟩
theorem C_lbO {t : Nat → Nat} {y : Int32} : ∀ d, d < 1000 → ∀ (μ : Mem) (st v : Nat) (p : Int32 × Int32), GB μ t st → μ.1 10 4 = p.1 → μ.1 10 5 = p.2 → v + d = 8 → ∃ m, F_P_lookBack_24 μ y (nI v) = some m ∧ m.1 10 4 = (lbO t y d v p).1 ∧ m.1 10 5 = (lbO t y d v p).2 ∧ SC μ m := by
  refine fun d hd => iter_run (fun d (g : Mem → Int32 → Int32 → Option Mem) => ∀ (μ : Mem) (st v : Nat) (p : Int32 × Int32), GB μ t st → μ.1 10 4 = p.1 → μ.1 10 5 = p.2 → v + d = 8 → ∃ m, g μ y (nI v) = some m ∧ m.1 10 4 = (lbO t y d v p).1 ∧ m.1 10 5 = (lbO t y d v p).2 ∧ SC μ m) ?_ ?_ NF d (NF_lt hd)
  · intro g μ st v p h h4 h5 hv
    unfold S_P_lookBack_24
    rw [lit 8, if_pos ((nI_leI (by omega) (by omega)).mpr (by omega))]
    exact ⟨μ, rfl, h4, h5, SC.rf μ⟩
  · intro d g ih μ st v p h h4 h5 hv
    unfold S_P_lookBack_24
    rw [lit 8, lit 0, if_neg (fun q => by have := (nI_leI (by omega) (by omega)).mp q; omega)]
    obtain ⟨m, st', e1, e2, e3, e4, e5⟩ := C_lbI (y := y) (v := v) (by omega) g 61 (by decide) μ st 0 p h h4 h5 rfl
    rw [e1]
    obtain ⟨m2, g1, g2, g3, g4⟩ := ih m st' (v + 1) _ e2 e3 e4 (by omega)
    exact ⟨m2, g1, g2, g3, e5.tr g4⟩
theorem M_lbI {t : Nat → Nat} {x y : Int32} {v : Nat} (hv : v < 8) (hy : nI (t 1) &&& (x ^^^ -1) = y) (z : Int32) (K : Mem → Int32 → Int32 → Int32 → Int32 → Int32 → Option (Int32 × Mem)) : ∀ d, d < 1000 → ∀ (ν : Mem) (s : Nat) (p : Int32 × Int32), MS ν t → s + d = 61 → ∃ m, F_M_morning_71 K ν x z p.1 p.2 (nI v) (nI s) = K m x z (lbI t y v d s p).1 (lbI t y v d s p).2 (nI (v + 1)) ∧ MS m t ∧ SM ν m := by
  refine fun d hd => iter_run (fun d (g : Mem → Int32 → Int32 → Int32 → Int32 → Int32 → Int32 → Option (Int32 × Mem)) => ∀ (ν : Mem) (s : Nat) (p : Int32 × Int32), MS ν t → s + d = 61 → ∃ m, g ν x z p.1 p.2 (nI v) (nI s) = K m x z (lbI t y v d s p).1 (lbI t y v d s p).2 (nI (v + 1)) ∧ MS m t ∧ SM ν m) ?_ ?_ NF d (NF_lt hd)
  · intro g ν s p h hs
    unfold S_M_morning_71
    rw [lit 60, if_pos ((nI_ltI (by omega) (by omega)).mpr (by omega)), lit 1, nI_add]
    exact ⟨ν, rfl, h, SM.rf ν⟩
  · intro d g ih ν s p h hs
    obtain ⟨ν2, g1, g2, g3, g4⟩ := M_behind h h.2.2.2.1 hv (show s ≤ 60 by omega)
    have h2 : MS ν2 t := g2.ms h
    have hsm : SM ν ν2 := SM.ofKM g2
    unfold S_M_morning_71
    rw [lit 60, if_neg (fun q => by have := (nI_ltI (by omega) (by omega)).mp q; omega), gd_t (by decide), show (1 : Int32).toNatClampNeg = 1 from rfl, h.at 1 (by decide), g1, bnd_s]
    show ∃ m, (gd (inb 1 47) (if nI (gustS t (t 1) v s).1 = (ν2.1 2 1 &&& (x ^^^ -1)) then F_M_morning_110 K g ν2 x z p.1 p.2 (nI v) (nI s) 1 else F_M_morning_110 K g ν2 x z p.1 p.2 (nI v) (nI s) 0)) = K m x z (lbI t y v d (s + 1) (mst t y v s p)).1 (lbI t y v d (s + 1) (mst t y v s p)).2 (nI (v + 1)) ∧ MS m t ∧ SM ν m
    rw [gd_t (by decide), h2.at 1 (by decide), hy]
    unfold mst F_M_morning_110 F_M_morning_132 F_M_morning_134
    have es : nI s + 1 = nI (s + 1) := nI_add s 1
    rw [es]
    by_cases c : nI (gustS t (t 1) v s).1 = y
    · rw [if_pos c, if_pos c, if_neg (show ¬ (1 : Int32) = 0 by decide), if_neg (show ¬ (1 : Int32) = 0 by decide)]
      by_cases c0 : p.1 = 0
      · rw [if_pos c0, if_pos c0]
        obtain ⟨m, e1, e2, e3⟩ := ih ν2 (s + 1) (p.1 + 1, 100 * nI v + nI s) h2 (by omega)
        exact ⟨m, e1, e2, hsm.tr e3⟩
      · rw [if_neg c0, if_neg c0]
        obtain ⟨m, e1, e2, e3⟩ := ih ν2 (s + 1) (p.1 + 1, p.2) h2 (by omega)
        exact ⟨m, e1, e2, hsm.tr e3⟩
    · rw [if_neg c, if_neg c, if_pos rfl, if_pos rfl, Int32.add_zero]
      obtain ⟨m, e1, e2, e3⟩ := ih ν2 (s + 1) p h2 (by omega)
      exact ⟨m, e1, e2, hsm.tr e3⟩
theorem M_lbO {t : Nat → Nat} {x y : Int32} (hy : nI (t 1) &&& (x ^^^ -1) = y) (z : Int32) : ∀ d, d < 1000 → ∀ (ν : Mem) (v : Nat) (p : Int32 × Int32), MS ν t → v + d = 8 → ∃ m, F_M_morning_61 ν x z p.1 p.2 (nI v) = some ((if z = 0 then (lbO t y d v p).1 else (lbO t y d v p).2), m) ∧ SM ν m := by
  refine fun d hd => iter_run (fun d (g : Mem → Int32 → Int32 → Int32 → Int32 → Int32 → Option (Int32 × Mem)) => ∀ (ν : Mem) (v : Nat) (p : Int32 × Int32), MS ν t → v + d = 8 → ∃ m, g ν x z p.1 p.2 (nI v) = some ((if z = 0 then (lbO t y d v p).1 else (lbO t y d v p).2), m) ∧ SM ν m) ?_ ?_ NF d (NF_lt hd)
  · intro g ν v p h hv
    unfold S_M_morning_61
    rw [lit 8, if_pos ((nI_leI (by omega) (by omega)).mpr (by omega))]
    show ∃ m, (if z = 0 then some (p.1, ν) else some (p.2, ν)) = some ((if z = 0 then p.1 else p.2), m) ∧ _
    by_cases c : z = 0
    · rw [if_pos c, if_pos c]; exact ⟨ν, rfl, SM.rf ν⟩
    · rw [if_neg c, if_neg c]; exact ⟨ν, rfl, SM.rf ν⟩
  · intro d g ih ν v p h hv
    unfold S_M_morning_61
    rw [lit 8, if_neg (fun q => by have := (nI_leI (by omega) (by omega)).mp q; omega)]
    obtain ⟨m, e1, e2, e3⟩ := M_lbI (v := v) (by omega) hy z g 61 (by decide) ν 0 p h rfl
    rw [show F_M_morning_71 g ν x z p.1 p.2 (nI v) 0 = _ from e1]
    obtain ⟨m2, g1, g2⟩ := ih m (v + 1) _ e2 (by omega)
    exact ⟨m2, g1, e3.tr g2⟩
theorem sub_of {a st : Nat} (ha : a < 2 ^ 31) (hs : st < 256) (h : nI a &&& (nI st ^^^ -1) = 0) : a ≤ st := by
  have e : (nI a &&& (nI st ^^^ -1)).toBitVec = (0 : Int32).toBitVec := congrArg Int32.toBitVec h
  rw [Int32.toBitVec_and, Int32.toBitVec_xor] at e
  have e2 : a &&& st = a := by
    apply Nat.eq_of_testBit_eq
    intro j
    rw [Nat.testBit_and]
    cases hj : a.testBit j with
    | false => rfl
    | true =>
      have hj31 : j < 31 := by
        rcases Nat.lt_or_ge j 31 with q | q
        · exact q
        · have := Nat.testBit_lt_two_pow (Nat.lt_of_lt_of_le ha (Nat.pow_le_pow_right (by decide) q))
          rw [this] at hj; cases hj
      have b := congrArg (fun z => z.getLsbD j) e
      simp only [BitVec.getLsbD_and, BitVec.getLsbD_xor] at b
      have A : ∀ c : Nat, (nI c).toBitVec.getLsbD j = c.testBit j := by
        intro c
        show (BitVec.ofNat 32 c).getLsbD j = c.testBit j
        rw [BitVec.getLsbD_ofNat, decide_eq_true (by omega), Bool.true_and]
      have O : (-1 : Int32).toBitVec.getLsbD j = true := by
        rw [show (-1 : Int32).toBitVec = BitVec.allOnes 32 by decide, BitVec.getLsbD_allOnes]
        exact decide_eq_true (by omega)
      have Z : (0 : Int32).toBitVec.getLsbD j = false := by
        rw [show (0 : Int32).toBitVec = 0#32 by decide, BitVec.getLsbD_zero]
      rw [A, A, O, Z, hj] at b
      cases hst : st.testBit j with
      | true => rfl
      | false => rw [hst] at b; cases b
  rw [← e2]; exact Nat.and_le_right
theorem ok_morning {μ ν : Mem} (h : Rel μ ν) (x y : Int32) : okI Rel (F_T_morning μ x y) (F_M_morning ν x y) := by
  obtain ⟨t, f1, f2, f3⟩ := h.1
  have hm : MS (stI ν 0 0 0) t := start_ms ⟨f3, f1⟩
  have hn := hm.n2
  have hp := pow_le (t 0) hn.2
  have h256 := f1.st256
  unfold F_T_morning F_M_morning F_T_morning_22 F_T_morning_23 F_T_morning_37 F_M_morning_48
  rw [gd_t (by decide), show ν.1 2 (0 : Int32).toNatClampNeg = nI (t 0) from f3 0 (by decide), allT _ (by omega), nI_l (by omega), gd_t (show inb 1 47 = true by decide), show ν.1 2 (1 : Int32).toNatClampNeg = nI (t 1) from f3 1 (by decide), show μ.1 1 3 = nI (t 1) from f2.1.2.2.2.1, show (0 : Int64) = lN 0 from litL 0, M_in x 0 (2 ^ t 0 - 1) (by decide) (by omega), show F_M_in y.toInt64 (lN 0) 1 = _ from M_in y 0 1 (by decide) (by decide), show F_T_within y 0 1 = _ from T_within y 0 1 (by decide) (by decide)]
  simp only [bnd_s, T_bad, M_badTen, if_pos (show (0 : Int32) = 0 from rfl), if_neg (show ¬ (1 : Int32) = 0 by decide)]
  have bad := ok_bad h (SC.rf μ) (SM.st0 ν) (-10)
  by_cases c0 : x < 0
  · have : ¬ (((0 : Nat) : Int) ≤ x.toInt ∧ x.toInt ≤ ((2 ^ t 0 - 1 : Nat) : Int)) := fun q => by
      have := Int32.lt_iff_toInt_lt.mp c0
      have z : (0 : Int32).toInt = 0 := rfl
      omega
    rw [if_pos c0, if_neg this]
    simp only [br0, br1]
    exact bad
  · rw [if_neg c0]
    by_cases c1 : (x &&& (nI (t 1) ^^^ -1)) = 0
    · obtain ⟨a, ha, e⟩ : ∃ a, a < 2 ^ 31 ∧ x = nI a := by
        have q1 : ¬ x.toInt < 0 := fun q => c0 (Int32.lt_iff_toInt_lt.mpr q)
        have q4 := x.toInt_lt
        refine ⟨x.toInt.toNat, by omega, Int32.toInt_inj.mp ?_⟩
        rw [nI_toInt (by omega)]; omega
      have le := sub_of ha h256 (by rw [← e]; exact c1)
      have hlt := f1.2.2.1
      have inn : (((0 : Nat) : Int) ≤ x.toInt ∧ x.toInt ≤ ((2 ^ t 0 - 1 : Nat) : Int)) := by
        rw [e, nI_toInt ha]; omega
      rw [if_pos c1, if_pos inn, if_pos c1]
      by_cases c2 : ((0 : Nat) : Int) ≤ y.toInt ∧ y.toInt ≤ ((1 : Nat) : Int)
      · rw [if_pos c2]
        simp only [br1]
        obtain ⟨m, a1, a2, a3, a4⟩ := C_asItIs f2 f1
        obtain ⟨m1, b1, b2, b3, b4⟩ := C_lbO (t := t) (y := nI (t 1) &&& (x ^^^ -1)) 8 (by decide) (stI (stI m 10 4 0) 10 5 (-1)) (t 1) 0 (0, -1) (GB.st10 (GB.st10 a2)) (by rw [stI_same, upd_ne _ _ (by decide), stI_same, upd_same]) (by rw [stI_same, upd_same]) rfl
        obtain ⟨ν1, g1, g2⟩ := M_lbO (t := t) (x := x) rfl y 8 (by decide) (stI ν 0 0 0) 0 (0, -1) hm rfl
        rw [a1, bnd_s]
        unfold F_P_lookBack
        rw [show m.1 1 3 = nI (t 1) from by rw [a3 1 (by decide)]; exact f2.1.2.2.2.1, show F_P_lookBack_24 (stI (stI m 10 4 0) 10 5 (-1)) (nI (t 1) &&& (x ^^^ -1)) 0 = _ from b1, bnd_s, show F_M_morning_61 (stI ν 0 0 0) x y 0 (-1) 0 = _ from g1, b2, b3]
        have hsc : SC μ m1 := (SC.of7 a3).tr (((SC.st (by omega)).tr (SC.st (by omega))).tr b4)
        by_cases c3 : y = 0
        · rw [if_pos c3, if_pos c3]; exact ok_same h hsc ((SM.st0 ν).tr g2) rfl
        · rw [if_neg c3, if_neg c3]; exact ok_same h hsc ((SM.st0 ν).tr g2) rfl
      · rw [if_neg c2]
        simp only [br0, br1]
        exact bad
    · rw [if_neg c1]
      by_cases inn : (((0 : Nat) : Int) ≤ x.toInt ∧ x.toInt ≤ ((2 ^ t 0 - 1 : Nat) : Int))
      · rw [if_pos inn, if_neg c1]
        simp only [br0, br1]
        exact bad
      · rw [if_neg inn]
        simp only [br0, br1]
        exact bad
