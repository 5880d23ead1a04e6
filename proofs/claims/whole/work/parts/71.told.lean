/-! Pure part (42): an item told, the check. -/
def TM (ν ν1 : Mem) : Prop := (∀ k, k ≠ 2 → ν1.1 k = ν.1 k) ∧ ν1.2 = ν.2
theorem TM.rf (ν : Mem) : TM ν ν := ⟨fun _ _ => rfl, rfl⟩
theorem TM.st {ν : Mem} {j : Nat} {v : Int32} : TM ν (stI ν 2 j v) := ⟨fun k q => stI_ne _ _ _ q, rfl⟩
theorem TM.tr {a b c : Mem} (h1 : TM a b) (h2 : TM b c) : TM a c := ⟨fun k q => (h2.1 k q).trans (h1.1 k q), h2.2.trans h1.2⟩
def mout (r : Option (Nat → Nat)) (ν : Mem) (o : Option (Int32 × Mem)) : Prop := match r with
  | none => ∃ ν1, o = some (0, ν1) ∧ TM ν ν1
  | some t' => ∃ ν1, o = some (1, ν1) ∧ MF (ν1.1 2) t' ∧ TM ν ν1
theorem mout_y {ν ν1 : Mem} {t' : Nat → Nat} {o : Option (Int32 × Mem)} (h : o = some (1, ν1)) (h1 : MF (ν1.1 2) t') (h4 : TM ν ν1) : mout (some t') ν o := ⟨ν1, h, h1, h4⟩
theorem mout_n {ν ν1 : Mem} {o : Option (Int32 × Mem)} (h : o = some (0, ν1)) (h4 : TM ν ν1) : mout none ν o := ⟨ν1, h, h4⟩
theorem M_peg_b {ν : Mem} {t : Nat → Nat} (h : MS ν t) {x : Nat} (hx : x < 100) : F_M_noPeg ν (nI x) = some (nI (if x < t 0 then 0 else 1)) := by
  have hn := h.n2
  unfold F_M_noPeg
  rw [gd_t (by decide), show (0 : Int32).toNatClampNeg = 0 from rfl, h.n, lit 1, nsub (by omega), show (nI (t 0 - 1)).toInt64 = lN (t 0 - 1) from nI_l (by omega), show F_M_in (nI x).toInt64 0 (lN (t 0 - 1)) = _ from in_b (by omega) (by decide) (by omega), bnd_s]
  by_cases c : x < t 0
  · rw [if_pos (show 0 ≤ x ∧ x ≤ t 0 - 1 by omega), if_pos c]; rfl
  · rw [if_neg (show ¬ (0 ≤ x ∧ x ≤ t 0 - 1) by omega), if_neg c]; rfl
theorem M_way_b {x : Nat} (hx : x < 100) : F_M_noWay (nI x) = some (nI (if x < 8 then 0 else 1)) := by
  unfold F_M_noWay
  rw [show F_M_in (nI x).toInt64 0 7 = _ from in_b (by omega) (by decide) (by decide), bnd_s]
  by_cases c : x < 8
  · rw [if_pos (show 0 ≤ x ∧ x ≤ 7 by omega), if_pos c]; rfl
  · rw [if_neg (show ¬ (0 ≤ x ∧ x ≤ 7) by omega), if_neg c]; rfl
theorem M_ispeg_b {ν : Mem} {t : Nat → Nat} (h : MS ν t) {x a b d : Nat} (hx : x < 100) (ha : a < 100) (hb : b < 100) (hd : d < 100) : F_M_isPeg ν (nI x) (nI a) (nI b) (nI d) = some (nI (if x < t 0 ∧ a ≤ 5 ∧ b ≤ 9 ∧ d ≤ 9 then 1 else 0)) := by
  unfold F_M_isPeg
  rw [M_peg_b h hx, bnd_s, show F_M_in (nI a).toInt64 0 5 = _ from in_b (by omega) (by decide) (by decide), show F_M_in (nI b).toInt64 0 9 = _ from in_b (by omega) (by decide) (by decide), show F_M_in (nI d).toInt64 0 9 = _ from in_b (by omega) (by decide) (by decide)]
  by_cases c1 : x < t 0
  · rw [if_pos c1, br0, bnd_s]
    by_cases c2 : a ≤ 5
    · rw [if_pos (show 0 ≤ a ∧ a ≤ 5 by omega), br1, bnd_s]
      by_cases c3 : b ≤ 9
      · rw [if_pos (show 0 ≤ b ∧ b ≤ 9 by omega), br1, bnd_s]
        by_cases c4 : d ≤ 9
        · rw [if_pos (show 0 ≤ d ∧ d ≤ 9 by omega), br1, if_pos ⟨c1, c2, c3, c4⟩]; rfl
        · rw [if_neg (show ¬ (0 ≤ d ∧ d ≤ 9) by omega), br0, if_neg (fun z => c4 z.2.2.2)]; rfl
      · rw [if_neg (show ¬ (0 ≤ b ∧ b ≤ 9) by omega), br0, if_neg (fun z => c3 z.2.2.1)]; rfl
    · rw [if_neg (show ¬ (0 ≤ a ∧ a ≤ 5) by omega), br0, if_neg (fun z => c2 z.2.1)]; rfl
  · rw [if_neg c1, br1, if_neg (fun z => c1 z.1)]; rfl
theorem orM2 : ∀ s, s < 256 → ∀ k, k < 8 → s.testBit k = false → nI s ||| (1 <<< (nI k &&& 31)) = nI (tog s k) := by decide +kernel
theorem M_told {ν : Mem} {t : Nat → Nat} {w k : Nat} {v : Nat → Nat} (h : MS ν t) (hw : 4 ≤ w ∧ w ≤ 9) (hk : 5 * k + 4 < 200) (h7 : ν.1 7 (5 * k) = nI (w - 4)) (hv : ∀ j, j < cnt w → v j < 100 ∧ ν.1 7 (5 * k + 1 + j) = nI (v j)) : mout (tellS t w v) ν (F_M_isTold ν (nI k)) := by
  have hn := h.n2
  have hc := cnt_le w
  have h256 := h.2.st256
  have h3 : t 3 < 256 := h.2.2.2.2.2.1
  have v0 := hv 0 (by omega)
  have v0' : ν.1 7 (5 * k + 1) = nI (v 0) := v0.2
  have e1 : (5 * nI k + 1 : Int32) = nI (5 * k + 1) := by rw [lit 5, lit 1, nmul, nI_add]
  have e2 : (5 * nI k + 2 : Int32) = nI (5 * k + 2) := by rw [lit 5, lit 2, nmul, nI_add]
  have e3 : (5 * nI k + 3 : Int32) = nI (5 * k + 3) := by rw [lit 5, lit 3, nmul, nI_add]
  have e4 : (5 * nI k + 4 : Int32) = nI (5 * k + 4) := by rw [lit 5, lit 4, nmul, nI_add]
  have e0 : (5 * nI k : Int32) = nI (5 * k) := by rw [lit 5, nmul]
  have n1 : (nI (5 * k + 1)).toNatClampNeg = 5 * k + 1 := nclamp (by omega)
  have n2 : (nI (5 * k + 2)).toNatClampNeg = 5 * k + 2 := nclamp (by omega)
  have n3 : (nI (5 * k + 3)).toNatClampNeg = 5 * k + 3 := nclamp (by omega)
  have n4 : (nI (5 * k + 4)).toNatClampNeg = 5 * k + 4 := nclamp (by omega)
  have n0 : (nI (5 * k)).toNatClampNeg = 5 * k := nclamp (by omega)
  unfold F_M_isTold
  rw [e1, e2, e3, e4, e0, n1, n2, n3, n4, n0, gd_nI (by omega) (by decide), gd_nI (by omega) (by decide), gd_nI (by omega) (by decide), h7, v0']
  rcases (show w = 4 ∨ w = 5 ∨ w = 6 ∨ w = 7 ∨ w = 8 ∨ w = 9 by omega) with rfl | rfl | rfl | rfl | rfl | rfl
  · rw [if_pos (show nI (4 - 4) = 0 by decide), show F_M_in (nI (v 0)).toInt64 2 8 = _ from in_b (by omega) (by decide) (by decide), bnd_s]
    show mout (if 2 ≤ v 0 ∧ v 0 ≤ 8 then some (pitchT (v 0)) else none) ν _
    by_cases c : 2 ≤ v 0 ∧ v 0 ≤ 8
    · rw [if_pos c, if_pos c, br1]
      obtain ⟨ν1, q1, q2, q3, q4⟩ := M_pitch ν c.2
      rw [q1, bnd_s]
      exact mout_y rfl q2 ⟨q3, q4⟩
    · rw [if_neg c, if_neg c, br0]; exact mout_n rfl (TM.rf ν)
  · have v1 := hv 1 (by decide)
    have v2 := hv 2 (by decide)
    have v3 := hv 3 (by decide)
    rw [if_neg (show ¬ nI (5 - 4) = 0 by decide), if_pos (show nI (5 - 4) = 1 by decide), gd_nI (by omega) (by decide), gd_nI (by omega) (by decide), gd_nI (by omega) (by decide), gd_nI (by omega) (by decide), show ν.1 7 (5 * k + 2) = nI (v 1) from v1.2, show ν.1 7 (5 * k + 3) = nI (v 2) from v2.2, show ν.1 7 (5 * k + 4) = nI (v 3) from v3.2, M_ispeg_b h v0.1 v1.1 v2.1 v3.1, bnd_s]
    show mout (if v 0 < t 0 ∧ v 1 ≤ 5 ∧ v 2 ≤ 9 ∧ v 3 ≤ 9 then some (tset (tset (tset t (5 + v 0) (v 1)) (13 + v 0) (v 2)) (21 + v 0) (v 3)) else none) ν _
    by_cases c : v 0 < t 0 ∧ v 1 ≤ 5 ∧ v 2 ≤ 9 ∧ v 3 ≤ 9
    · have hd := M_drive h.1 (show v 0 < 8 by omega) (v 1) (v 2) (v 3)
      rw [if_pos c, if_pos c, br1, hd.1, bnd_s]
      exact mout_y rfl hd.2 ((TM.st.tr TM.st).tr TM.st)
    · rw [if_neg c, if_neg c, br0]; exact mout_n rfl (TM.rf ν)
  · rw [if_neg (show ¬ nI (6 - 4) = 0 by decide), if_neg (show ¬ nI (6 - 4) = 1 by decide), if_pos (show nI (6 - 4) = 2 by decide), gd_t (by decide)]
    show mout (if v 0 ≤ 9 then some (tset t 2 (v 0)) else none) ν _
    by_cases c : v 0 ≤ 9
    · rw [if_neg (show ¬ (10 : Int32) ≤ nI (v 0) from fun z => by have := (nI_leI (a := 10) (by decide) (by omega)).mp z; omega), if_pos c]
      exact mout_y rfl (by rw [stI_same]; exact MF.set h.1 2 (v 0)) TM.st
    · rw [if_pos (show (10 : Int32) ≤ nI (v 0) from (nI_leI (a := 10) (by decide) (by omega)).mpr (by omega)), if_neg c]
      exact mout_n rfl TM.st
  · rw [if_neg (show ¬ nI (7 - 4) = 0 by decide), if_neg (show ¬ nI (7 - 4) = 1 by decide), if_neg (show ¬ nI (7 - 4) = 2 by decide), if_pos (show nI (7 - 4) = 3 by decide), M_way_b v0.1, bnd_s]
    show mout (if v 0 < 8 ∧ (t 3).testBit (v 0) = false then some (tset t 3 (tog (t 3) (v 0))) else none) ν _
    by_cases c : v 0 < 8
    · rw [if_pos c, br0, gd_t (by decide), show (3 : Int32).toNatClampNeg = 3 from rfl, h.at 3 (by decide), hasM _ h3 _ c, bnd_s]
      cases hb : (t 3).testBit (v 0) with
      | true => rw [if_neg (show ¬ nI true.toNat = 0 by decide), if_neg (show ¬ (v 0 < 8 ∧ true = false) from fun z => by cases z.2)]; exact mout_n rfl (TM.rf ν)
      | false =>
        rw [if_pos (show nI false.toNat = 0 by decide), gd_t (by decide), gd_t (by decide), orM2 _ h3 _ c hb, if_pos (show v 0 < 8 ∧ false = false from ⟨c, rfl⟩)]
        exact mout_y rfl (by rw [stI_same]; exact MF.set h.1 3 _) TM.st
    · rw [if_neg c, br1, if_neg (fun z => c z.1)]; exact mout_n rfl (TM.rf ν)
  · have v1 := hv 1 (by decide)
    rw [if_neg (show ¬ nI (8 - 4) = 0 by decide), if_neg (show ¬ nI (8 - 4) = 1 by decide), if_neg (show ¬ nI (8 - 4) = 2 by decide), if_neg (show ¬ nI (8 - 4) = 3 by decide), if_pos (show nI (8 - 4) = 4 by decide), M_way_b v0.1, bnd_s, show ν.1 7 (5 * k + 2) = nI (v 1) from v1.2]
    show mout (if v 0 < 8 ∧ v 1 ≤ 20 then some (tset t (29 + v 0) (v 1)) else none) ν _
    by_cases c : v 0 < 8
    · rw [if_pos c, br0]
      by_cases c2 : v 1 ≤ 20
      · rw [if_pos (show nI (v 1) ≤ 20 from (nI_leI (b := 20) (by omega) (by decide)).mpr c2), lit 29, nI_add, gd_nI (by omega) (by decide), nclamp (by omega), if_pos ⟨c, c2⟩]
        exact mout_y rfl (by rw [stI_same]; exact MF.set h.1 _ _) TM.st
      · rw [if_neg (show ¬ nI (v 1) ≤ 20 from fun z => c2 ((nI_leI (b := 20) (by omega) (by decide)).mp z)), if_neg (fun z => c2 z.2)]; exact mout_n rfl (TM.rf ν)
    · rw [if_neg c, br1, if_neg (fun z => c z.1)]; exact mout_n rfl (TM.rf ν)
  · rw [if_neg (show ¬ nI (9 - 4) = 0 by decide), if_neg (show ¬ nI (9 - 4) = 1 by decide), if_neg (show ¬ nI (9 - 4) = 2 by decide), if_neg (show ¬ nI (9 - 4) = 3 by decide), if_neg (show ¬ nI (9 - 4) = 4 by decide), M_peg_b h v0.1, bnd_s]
    show mout (if v 0 < t 0 ∧ (t 1).testBit (v 0) = true then some (tset t 1 (tog (t 1) (v 0))) else none) ν _
    by_cases c : v 0 < t 0
    · rw [if_pos c, br0, gd_t (by decide), show (1 : Int32).toNatClampNeg = 1 from rfl, h.at 1 (by decide), hasM _ h256 _ (by omega), bnd_s]
      cases hb : (t 1).testBit (v 0) with
      | false => rw [if_pos (show nI false.toNat = 0 by decide), if_neg (show ¬ (v 0 < t 0 ∧ false = true) from fun z => by cases z.2)]; exact mout_n rfl (TM.rf ν)
      | true =>
        rw [if_neg (show ¬ nI true.toNat = 0 by decide), gd_t (by decide), gd_t (by decide), xorM _ h256 _ (by omega), if_pos (show v 0 < t 0 ∧ true = true from ⟨c, rfl⟩)]
        exact mout_y rfl (by rw [stI_same]; exact MF.set h.1 1 _) TM.st
    · rw [if_neg c, br1, if_neg (fun z => c z.1)]; exact mout_n rfl (TM.rf ν)
