/-! Pure part (7): when two memories are related; refusals; ranges. -/
theorem litL (n : Nat) : (OfNat.ofNat n : Int64) = lN n := Int64.toInt_inj.mp rfl
def Fld (μ ν : Mem) : Prop := ∃ t, Wf t ∧ CF μ 1 t ∧ MF (ν.1 2) t
def Rst (μ ν : Mem) : Prop := μ.1 0 10 = ν.1 1 0 ∧ μ.1 0 11 = ν.1 1 1 ∧ μ.1 0 12 = ν.1 1 2
def Rtx (μ ν : Mem) : Prop := ∃ sz, sz ≤ 150 ∧ μ.1 0 7 = nI sz ∧ ν.1 0 7 = nI sz ∧ ∀ j, j < sz → ∃ ch, ch ≤ 127 ∧ μ.1 13 j = nI ch ∧ ν.1 6 j = nI ch
def Rfr (μ ν : Mem) : Prop := (μ.1 0 8).toInt64 = ν.2 17 ∧ (μ.1 0 9).toInt64 = ν.2 18
def Rim (μ ν : Mem) : Prop := ∀ i, i < 2 → μ.1 35 i = ν.1 5 i ∧ (μ.1 35 i = nI 0 ∨ (μ.1 35 i = nI 1 ∧ ∃ t, Wf t ∧ CF μ (23 + 6 * i) t ∧ ∀ j, j < 47 → ν.1 4 (47 * i + j) = nI (t j)))
def Rel (μ ν : Mem) : Prop := Fld μ ν ∧ Rst μ ν ∧ Rtx μ ν ∧ Rfr μ ν ∧ Rim μ ν
/-- the class's scratch apart, all as it was -/
def SC (μ μ1 : Mem) : Prop := ∀ k, (k < 7 ∨ k = 13 ∨ 22 ≤ k) → μ1.1 k = μ.1 k
def SM (ν ν1 : Mem) : Prop := (∀ k, (k = 1 ∨ k = 2 ∨ k = 4 ∨ k = 5 ∨ k = 6) → ν1.1 k = ν.1 k) ∧ ν1.1 0 7 = ν.1 0 7 ∧ ν1.2 17 = ν.2 17 ∧ ν1.2 18 = ν.2 18
theorem SC.rf (μ : Mem) : SC μ μ := fun _ _ => rfl
theorem SC.tr {a b c : Mem} (h1 : SC a b) (h2 : SC b c) : SC a c := fun k q => (h2 k q).trans (h1 k q)
theorem SC.st {μ : Mem} {k j : Nat} {v : Int32} (h : (7 ≤ k ∧ k ≤ 12) ∨ (14 ≤ k ∧ k ≤ 21)) : SC μ (stI μ k j v) := fun i q => stI_ne μ j v (by omega)
theorem SC.of789 {μ μ1 : Mem} (h : K789 μ μ1) : SC μ μ1 := fun k q => h.1 k (by omega) (by omega) (by omega)
theorem SM.rf (ν : Mem) : SM ν ν := ⟨fun _ _ => rfl, rfl, rfl, rfl⟩
theorem SM.tr {a b c : Mem} (h1 : SM a b) (h2 : SM b c) : SM a c := ⟨fun k q => (h2.1 k q).trans (h1.1 k q), h2.2.1.trans h1.2.1, h2.2.2.1.trans h1.2.2.1, h2.2.2.2.trans h1.2.2.2⟩
theorem SM.th (ν : Mem) (v : Int32) : SM ν (stI ν 0 0 v) := ⟨fun k q => stI_ne ν 0 v (by omega), by rw [stI_same, upd_ne _ _ (by decide)], rfl, rfl⟩
theorem SM.s0 {ν : Mem} {j : Nat} {v : Int32} (hj : j ≠ 7) : SM ν (stI ν 0 j v) := ⟨fun k q => stI_ne ν j v (by omega), by rw [stI_same, upd_ne _ _ (by omega)], rfl, rfl⟩
theorem SM.st {ν : Mem} {k j : Nat} {v : Int32} (h : k = 3 ∨ 7 ≤ k) : SM ν (stI ν k j v) := ⟨fun i q => stI_ne ν j v (by omega), by rw [stI_ne ν j v (by omega)], rfl, rfl⟩
theorem SM.l {ν : Mem} {j : Nat} {v : Int64} (h : j ≠ 17 ∧ j ≠ 18) : SM ν (stL ν j v) := ⟨fun _ _ => rfl, rfl, by rw [stL_2, if_neg (by omega)], by rw [stL_2, if_neg (by omega)]⟩
theorem SM.ofKM {ν ν1 : Mem} (h : KM ν ν1) : SM ν ν1 := ⟨fun k q => h.1 k (by omega) (by omega) (by omega), h.2.1 7 (by decide), by rw [h.2.2], by rw [h.2.2]⟩
theorem SM.ms {ν ν1 : Mem} {t : Nat → Nat} (h : SM ν ν1) (hm : MS ν t) : MS ν1 t := ⟨by rw [h.1 2 (by omega)]; exact hm.1, hm.2⟩
theorem Rtx.same {μ ν μ1 ν1 : Mem} (h : Rtx μ ν) (a1 : μ1.1 0 7 = μ.1 0 7) (a2 : μ1.1 13 = μ.1 13) (b1 : ν1.1 0 7 = ν.1 0 7) (b2 : ν1.1 6 = ν.1 6) : Rtx μ1 ν1 := by
  obtain ⟨sz, h1, h2, h3, h4⟩ := h
  refine ⟨sz, h1, a1.trans h2, b1.trans h3, fun j hj => ?_⟩
  rw [a2, b2]; exact h4 j hj
theorem Rim.same {μ ν μ1 ν1 : Mem} (h : Rim μ ν) (a1 : ∀ k, 23 ≤ k → μ1.1 k = μ.1 k) (b1 : ν1.1 5 = ν.1 5) (b2 : ν1.1 4 = ν.1 4) : Rim μ1 ν1 := by
  intro i hi
  obtain ⟨h1, h2⟩ := h i hi
  rw [a1 35 (by decide), b1]
  refine ⟨h1, ?_⟩
  rcases h2 with h2 | ⟨h2, t, c1, c2, c3⟩
  · exact Or.inl h2
  · exact Or.inr ⟨h2, t, c1, c2.keep (fun k q1 q2 => a1 k (by omega)), by rw [b2]; exact c3⟩
theorem Rel.same {μ ν μ1 ν1 : Mem} (h : Rel μ ν) (hc : SC μ μ1) (hm : SM ν ν1) : Rel μ1 ν1 := by
  obtain ⟨⟨t, f1, f2, f3⟩, s, x, r, i⟩ := h
  refine ⟨⟨t, f1, f2.keep (fun k q1 q2 => hc k (by omega)), by rw [hm.1 2 (by omega)]; exact f3⟩, ?_, x.same (by rw [hc 0 (by omega)]) (hc 13 (by omega)) hm.2.1 (hm.1 6 (by omega)), ?_, i.same (fun k q => hc k (by omega)) (hm.1 5 (by omega)) (hm.1 4 (by omega))⟩
  · unfold Rst; rw [hc 0 (by omega), hm.1 1 (by omega)]; exact s
  · unfold Rfr; rw [hc 0 (by omega), hm.2.2.1, hm.2.2.2]; exact r
/-- a refusal counted -/
theorem Rel.cnt {μ ν : Mem} (h : Rel μ ν) (i : Nat) (hi : i < 3) {v w : Int32} (hv : v = μ.1 0 (10 + i) + 1) (hw : w = ν.1 1 i + 1) : Rel (stI μ 0 (10 + i) v) (stI ν 1 i w) := by
  obtain ⟨⟨t, f1, f2, f3⟩, ⟨s0, s1, s2⟩, x, r, im⟩ := h
  subst hv; subst hw
  refine ⟨⟨t, f1, f2.keep (fun k q1 q2 => stI_ne _ _ _ (by omega)), by rw [stI_ne _ _ _ (by decide)]; exact f3⟩, ?_, x.same (by rw [stI_same, upd_ne _ _ (by omega)]) (stI_ne _ _ _ (by decide)) (by rw [stI_ne _ _ _ (by decide)]) (stI_ne _ _ _ (by decide)), ?_, im.same (fun k q => stI_ne _ _ _ (by omega)) (stI_ne _ _ _ (by decide)) (stI_ne _ _ _ (by decide))⟩
  · unfold Rst
    rw [stI_same, stI_same]
    rcases (show i = 0 ∨ i = 1 ∨ i = 2 by omega) with rfl | rfl | rfl
    · exact ⟨by rw [upd_same, upd_same, s0], by rw [upd_ne _ _ (by decide), upd_ne _ _ (by decide)]; exact s1, by rw [upd_ne _ _ (by decide), upd_ne _ _ (by decide)]; exact s2⟩
    · exact ⟨by rw [upd_ne _ _ (by decide), upd_ne _ _ (by decide)]; exact s0, by rw [upd_same, upd_same, s1], by rw [upd_ne _ _ (by decide), upd_ne _ _ (by decide)]; exact s2⟩
    · exact ⟨by rw [upd_ne _ _ (by decide), upd_ne _ _ (by decide)]; exact s0, by rw [upd_ne _ _ (by decide), upd_ne _ _ (by decide)]; exact s1, by rw [upd_same, upd_same, s2]⟩
  · unfold Rfr
    rw [stI_same, upd_ne _ _ (by omega), upd_ne _ _ (by omega)]
    exact r
theorem T_bad (μ : Mem) (x : Int32) : F_T_bad μ x = some (x, stI μ 0 10 (μ.1 0 10 + 1)) := rfl
theorem T_no (μ : Mem) : F_T_no μ = some (-3, stI μ 0 11 (μ.1 0 11 + 1)) := rfl
theorem T_full (μ : Mem) : F_T_full μ = some (-4, stI μ 0 12 (μ.1 0 12 + 1)) := rfl
theorem M_refuse (ν : Mem) (i : Nat) (hi : i < 3) (x : Int32) : F_M_refuse ν (nI i) x = some (x, stI ν 1 i (ν.1 1 i + 1)) := by
  unfold F_M_refuse
  rw [gd_nI (by omega) (by decide), gd_nI (by omega) (by decide), nclamp (by omega)]
theorem M_bad (ν : Mem) : F_M_bad ν = some (-2, stI ν 1 0 (ν.1 1 0 + 1)) := by
  unfold F_M_bad
  rw [show (0 : Int32) = nI 0 from lit 0, M_refuse ν 0 (by decide)]
  rfl
theorem M_badTen (ν : Mem) : F_M_badTen ν = some (-10, stI ν 1 0 (ν.1 1 0 + 1)) := by
  unfold F_M_badTen
  rw [show (0 : Int32) = nI 0 from lit 0, M_refuse ν 0 (by decide)]
  rfl
theorem M_no (ν : Mem) : F_M_no ν = some (-3, stI ν 1 1 (ν.1 1 1 + 1)) := by
  unfold F_M_no
  rw [show (1 : Int32) = nI 1 from lit 1, M_refuse ν 1 (by decide)]
  rfl
/-- refused alike -/
theorem ok_bad {μ ν μ1 ν1 : Mem} (h : Rel μ ν) (hc : SC μ μ1) (hm : SM ν ν1) (x : Int32) : okI Rel (some (x, stI μ1 0 10 (μ1.1 0 10 + 1))) (some (x, stI ν1 1 0 (ν1.1 1 0 + 1))) := ⟨x, _, _, rfl, rfl, (h.same hc hm).cnt 0 (by decide) rfl rfl⟩
theorem ok_no {μ ν μ1 ν1 : Mem} (h : Rel μ ν) (hc : SC μ μ1) (hm : SM ν ν1) (x : Int32) : okI Rel (some (x, stI μ1 0 11 (μ1.1 0 11 + 1))) (some (x, stI ν1 1 1 (ν1.1 1 1 + 1))) := ⟨x, _, _, rfl, rfl, (h.same hc hm).cnt 1 (by decide) rfl rfl⟩
theorem ok_same {μ ν μ1 ν1 : Mem} (h : Rel μ ν) (hc : SC μ μ1) (hm : SM ν ν1) {x y : Int32} (hxy : x = y) : okI Rel (some (x, μ1)) (some (y, ν1)) := ⟨x, μ1, ν1, rfl, by rw [hxy], h.same hc hm⟩
/-! ranges -/
theorem T_within (x : Int32) (lo hi : Nat) (h1 : lo < 2 ^ 31) (h2 : hi < 2 ^ 31) : F_T_within x (nI lo) (nI hi) = some (nI (if (lo : Int) ≤ x.toInt ∧ x.toInt ≤ hi then 1 else 0)) := by
  unfold F_T_within
  by_cases c1 : (lo : Int) ≤ x.toInt
  · by_cases c2 : x.toInt ≤ hi
    · rw [if_neg (show ¬ x < nI lo by rw [Int32.lt_iff_toInt_lt, nI_toInt h1]; omega), if_neg (show ¬ nI hi < x by rw [Int32.lt_iff_toInt_lt, nI_toInt h2]; omega), if_pos (show (lo : Int) ≤ x.toInt ∧ x.toInt ≤ hi from ⟨c1, c2⟩)]; rfl
    · rw [if_neg (show ¬ x < nI lo by rw [Int32.lt_iff_toInt_lt, nI_toInt h1]; omega), if_pos (show nI hi < x by rw [Int32.lt_iff_toInt_lt, nI_toInt h2]; omega), if_neg (show ¬ ((lo : Int) ≤ x.toInt ∧ x.toInt ≤ hi) from fun q => c2 q.2)]; rfl
  · rw [if_pos (show x < nI lo by rw [Int32.lt_iff_toInt_lt, nI_toInt h1]; omega), if_neg (show ¬ ((lo : Int) ≤ x.toInt ∧ x.toInt ≤ hi) from fun q => c1 q.1)]; rfl
theorem cmp_lt (x y : Int64) : lg_cmp x y < 0 ↔ x < y := by
  unfold lg_cmp
  by_cases c1 : x > y
  · rw [if_pos c1]
    have c1' : y.toInt < x.toInt := Int64.lt_iff_toInt_lt.mp c1
    rw [Int64.lt_iff_toInt_lt]
    exact ⟨fun q => absurd q (by decide), fun q => by omega⟩
  · rw [if_neg c1]
    by_cases c2 : x = y
    · rw [if_pos c2, c2]
      rw [Int64.lt_iff_toInt_lt]
      exact ⟨fun q => absurd q (by decide), fun q => by omega⟩
    · rw [if_neg c2]
      have c1' : ¬ y.toInt < x.toInt := fun q => c1 (Int64.lt_iff_toInt_lt.mpr q)
      have c2' : ¬ x.toInt = y.toInt := fun q => c2 (Int64.toInt_inj.mp q)
      rw [Int64.lt_iff_toInt_lt]
      exact ⟨fun _ => by omega, fun _ => by decide⟩
theorem cmp_gt (x y : Int64) : 0 < lg_cmp x y ↔ y < x := by
  unfold lg_cmp
  by_cases c1 : x > y
  · rw [if_pos c1]
    exact ⟨fun _ => c1, fun _ => by decide⟩
  · rw [if_neg c1]
    by_cases c2 : x = y
    · rw [if_pos c2]
      exact ⟨fun q => absurd q (by decide), fun q => absurd q c1⟩
    · rw [if_neg c2]
      exact ⟨fun q => absurd q (by decide), fun q => absurd q c1⟩
theorem cmp_eq (x y : Int64) : lg_cmp x y = 0 ↔ x = y := by
  unfold lg_cmp
  by_cases c1 : x > y
  · rw [if_pos c1]
    have c1' : y.toInt < x.toInt := Int64.lt_iff_toInt_lt.mp c1
    exact ⟨fun q => absurd q (by decide), fun q => by rw [q] at c1'; omega⟩
  · rw [if_neg c1]
    by_cases c2 : x = y
    · rw [if_pos c2]; exact ⟨fun _ => c2, fun _ => rfl⟩
    · rw [if_neg c2]; exact ⟨fun q => absurd q (by decide), fun q => absurd q c2⟩
theorem M_in (x : Int32) (lo hi : Nat) (h1 : lo < 2 ^ 31) (h2 : hi < 2 ^ 31) : F_M_in x.toInt64 (lN lo) (lN hi) = some (nI (if (lo : Int) ≤ x.toInt ∧ x.toInt ≤ hi then 1 else 0)) := by
  unfold F_M_in
  have e1 : lg_cmp x.toInt64 (lN lo) < 0 ↔ x.toInt < lo := by rw [cmp_lt, Int64.lt_iff_toInt_lt, Int32.toInt_toInt64, lN_toInt h1]
  have e2 : 0 < lg_cmp x.toInt64 (lN hi) ↔ (hi : Int) < x.toInt := by rw [cmp_gt, Int64.lt_iff_toInt_lt, Int32.toInt_toInt64, lN_toInt h2]
  by_cases c1 : (lo : Int) ≤ x.toInt
  · by_cases c2 : x.toInt ≤ hi
    · rw [if_neg (show ¬ lg_cmp x.toInt64 (lN lo) < 0 by rw [e1]; omega), if_neg (show ¬ 0 < lg_cmp x.toInt64 (lN hi) by rw [e2]; omega), if_pos (show (lo : Int) ≤ x.toInt ∧ x.toInt ≤ hi from ⟨c1, c2⟩)]; rfl
    · rw [if_neg (show ¬ lg_cmp x.toInt64 (lN lo) < 0 by rw [e1]; omega), if_pos (show 0 < lg_cmp x.toInt64 (lN hi) by rw [e2]; omega), if_neg (show ¬ ((lo : Int) ≤ x.toInt ∧ x.toInt ≤ hi) from fun q => c2 q.2)]; rfl
  · rw [if_pos (show lg_cmp x.toInt64 (lN lo) < 0 by rw [e1]; omega), if_neg (show ¬ ((lo : Int) ≤ x.toInt ∧ x.toInt ≤ hi) from fun q => c1 q.1)]; rfl
theorem rng_of {x : Int32} {lo hi : Nat} (h : (lo : Int) ≤ x.toInt ∧ x.toInt ≤ hi) (h2 : hi < 2 ^ 31) : ∃ j, lo ≤ j ∧ j ≤ hi ∧ x = nI j := by
  refine ⟨x.toInt.toNat, by omega, by omega, Int32.toInt_inj.mp ?_⟩
  rw [nI_toInt (by omega)]
  omega
theorem dich (x : Int32) (lo hi : Nat) (h1 : lo < 2 ^ 31) (h2 : hi < 2 ^ 31) : (∃ j, lo ≤ j ∧ j ≤ hi ∧ x = nI j ∧ F_T_within x (nI lo) (nI hi) = some (nI 1) ∧ F_M_in x.toInt64 (lN lo) (lN hi) = some (nI 1)) ∨ (F_T_within x (nI lo) (nI hi) = some (nI 0) ∧ F_M_in x.toInt64 (lN lo) (lN hi) = some (nI 0)) := by
  rw [T_within x lo hi h1 h2, M_in x lo hi h1 h2]
  by_cases c : (lo : Int) ≤ x.toInt ∧ x.toInt ≤ hi
  · left
    obtain ⟨j, a, b, e⟩ := rng_of c h2
    rw [if_pos c]
    exact ⟨j, a, b, e, rfl, rfl⟩
  · right
    rw [if_neg c]
    exact ⟨rfl, rfl⟩
theorem isZ01 : isZ (nI 0) = true ∧ isZ (nI 1) = true := by decide
theorem n10 : ¬ nI 1 = nI 0 := by decide
theorem dWay (x : Int32) : (∃ v, v < 8 ∧ x = nI v ∧ F_T_isWay x = some (nI 1) ∧ F_M_noWay x = some (nI 0)) ∨ (F_T_isWay x = some (nI 0) ∧ F_M_noWay x = some (nI 1)) := by
  unfold F_T_isWay F_M_noWay
  simp only [lit, litL]
  rcases dich x 0 7 (by decide) (by decide) with ⟨j, a, b, e, h1, h2⟩ | ⟨h1, h2⟩
  · left
    rw [h1, h2]
    exact ⟨j, by omega, e, rfl, rfl⟩
  · right
    rw [h1, h2]
    exact ⟨rfl, rfl⟩
theorem dStr (x : Int32) : (∃ s, s ≤ 60 ∧ x = nI s ∧ F_T_isStrength x = some (nI 1) ∧ F_M_in x.toInt64 (lN 0) (lN 60) = some (nI 1)) ∨ (F_T_isStrength x = some (nI 0) ∧ F_M_in x.toInt64 (lN 0) (lN 60) = some (nI 0)) := by
  unfold F_T_isStrength
  simp only [lit]
  rcases dich x 0 60 (by decide) (by decide) with ⟨j, a, b, e, h1, h2⟩ | ⟨h1, h2⟩
  · left
    rw [h1]
    exact ⟨j, by omega, e, rfl, h2⟩
  · right
    rw [h1]
    exact ⟨rfl, h2⟩
theorem dGust (x y : Int32) : (∃ v s, v < 8 ∧ s ≤ 60 ∧ x = nI v ∧ y = nI s ∧ F_T_isGust x y = some (nI 1) ∧ F_M_noGust x y = some (nI 0)) ∨ (F_T_isGust x y = some (nI 0) ∧ F_M_noGust x y = some (nI 1)) := by
  unfold F_T_isGust F_M_noGust
  simp only [lit, litL]
  rcases dWay x with ⟨v, hv, e, h1, h2⟩ | ⟨h1, h2⟩
  · rcases dStr y with ⟨s, hs, f, g1, g2⟩ | ⟨g1, g2⟩
    · left; rw [h1, h2, g1, g2]; exact ⟨v, s, hv, hs, e, f, rfl, rfl⟩
    · right; rw [h1, h2, g1, g2]; exact ⟨rfl, rfl⟩
  · right; rw [h1, h2]; exact ⟨rfl, rfl⟩
theorem dPeg {φ ν : Mem} {t : Nat → Nat} (hc : CF φ 0 t) (hm : MS ν t) (x : Int32) : (∃ k, k < t 0 ∧ x = nI k ∧ F_F_hasPeg φ x = some (nI 1) ∧ F_M_noPeg ν x = some (nI 0)) ∨ (F_F_hasPeg φ x = some (nI 0) ∧ F_M_noPeg ν x = some (nI 1)) := by
  have hn := hm.n2
  unfold F_F_hasPeg F_M_noPeg
  simp only [lit, litL]
  rw [show φ.1 0 0 = nI (t 0) from hc.1.1, gd_nI (by decide) (by decide), nclamp (by decide), hm.n, nsub (by omega), nI_l (by omega)]
  rcases dich x 0 (t 0 - 1) (by omega) (by omega) with ⟨j, a, b, e, h1, h2⟩ | ⟨h1, h2⟩
  · left; rw [h1, h2]; exact ⟨j, by omega, e, rfl, rfl⟩
  · right; rw [h1, h2]; exact ⟨rfl, rfl⟩
theorem CF.sub {μ : Mem} {b : Nat} {t : Nat → Nat} (h : CF μ b t) : CF (sub b μ) 0 t := h
theorem CF.put {μ φ : Mem} {b : Nat} {t : Nat → Nat} (h : CF φ 0 t) : CF (put6 b 0 μ φ) b t := by
  obtain ⟨⟨a1, a2, a3, a4, a5⟩, b1, b2, b3, b4, b5⟩ := h
  have e0 : (put6 b 0 μ φ).1 b = φ.1 0 := put6_in b 0 μ φ (k := 0) (by decide)
  refine ⟨⟨by rw [e0]; exact a1, by rw [e0]; exact a2, by rw [e0]; exact a3, by rw [e0]; exact a4, by rw [e0]; exact a5⟩, fun k q => ?_, fun k q => ?_, fun k q => ?_, fun k q => ?_, fun k q => ?_⟩
  · rw [put6_in b 0 μ φ (by decide)]; exact b1 k q
  · rw [put6_in b 0 μ φ (by decide)]; exact b2 k q
  · rw [put6_in b 0 μ φ (by decide)]; exact b3 k q
  · rw [put6_in b 0 μ φ (by decide)]; exact b4 k q
  · rw [put6_in b 0 μ φ (by decide)]; exact b5 k q
