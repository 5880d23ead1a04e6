/-! Pure part (9): the operations that write the field. -/
theorem gz0 {α : Type} (k : Option α) : gd (isZ (nI 0)) k = k := rfl
theorem gz1 {α : Type} (k : Option α) : gd (isZ (nI 1)) k = k := rfl
theorem br0 {α : Type} (a b : α) : (if nI 0 = 0 then a else b) = a := if_pos (by decide)
theorem br1 {α : Type} (a b : α) : (if nI 1 = 0 then a else b) = b := if_neg (by decide)
theorem brn0 {α : Type} (a b : α) : (if nI 0 = nI 0 then a else b) = a := if_pos rfl
theorem brn1 {α : Type} (a b : α) : (if nI 1 = nI 0 then a else b) = b := if_neg (by decide)
theorem start_ms {ν : Mem} {t : Nat → Nat} (h : MS ν t) : MS (stI ν 0 0 0) t := h.stI (by decide)
theorem SM.st0 (ν : Mem) : SM ν (stI ν 0 0 0) := SM.th ν 0
theorem ok_tent {μ ν : Mem} (h : Rel μ ν) (x : Int32) : okI Rel (F_T_tent μ x) (F_M_tent ν x) := by
  obtain ⟨t, f1, f2, f3⟩ := h.1
  unfold F_T_tent F_M_tent F_F_mayPitch
  rw [lit 2, lit 8, litL 2, litL 8]
  rcases dich x 2 8 (by decide) (by decide) with ⟨n, a, b, e, h1, h2⟩ | ⟨h1, h2⟩
  · rw [h1, h2, e]
    obtain ⟨φ1, p1, p2⟩ := C_pitch (sub 1 μ) b
    obtain ⟨ν1, q1, q2, q3, q4⟩ := M_pitch (stI ν 0 0 0) b
    simp only [bnd_s, gz1, br1]
    rw [p1, bnd_s, gd_t (by decide), q1, bnd_s]
    refine ok_fld h SCF.put ((SMF.of (SM.st0 ν)).tr (SMF.no2 q3 q4)) (pitch_wf a b) p2.put q2 ?_
    exact f2.1.1.trans (f3 0 (by decide)).symm
  · rw [h1, h2]
    simp only [bnd_s, gz0, br0, T_bad, M_bad]
    exact ok_bad h (SC.rf μ) (SM.st0 ν) _
theorem ok_wet {μ ν : Mem} (h : Rel μ ν) (x : Int32) : okI Rel (F_T_wet μ x) (F_M_wet ν x) := by
  obtain ⟨t, f1, f2, f3⟩ := h.1
  unfold F_T_wet F_M_wet F_F_mayWet
  rw [lit 0, lit 9, litL 0, litL 9]
  rcases dich x 0 9 (by decide) (by decide) with ⟨n, a, b, e, h1, h2⟩ | ⟨h1, h2⟩
  · rw [h1, h2, e]
    simp only [bnd_s, gz1, br1]
    rw [gd_t (by decide), gd_t (by decide)]
    refine ok_fld (t := tset t 2 n) h (SCF.st (by omega)) ((SMF.of (SM.st0 ν)).tr SMF.st) (f1.set (by omega)) (f2.s (by omega)) ?_ ?_
    · rw [stI_same]; exact MF.set f3 2 n
    · exact f2.1.2.1.trans (f3 2 (by decide)).symm
  · rw [h1, h2]
    simp only [bnd_s, gz0, br0, T_bad, M_bad]
    exact ok_bad h (SC.rf μ) (SM.st0 ν) _
theorem dDrive {φ ν : Mem} {t : Nat → Nat} (hc : CF φ 0 t) (hm : MS ν t) (x a b c : Int32) : (∃ k i j l, k < t 0 ∧ i ≤ 5 ∧ j ≤ 9 ∧ l ≤ 9 ∧ x = nI k ∧ a = nI i ∧ b = nI j ∧ c = nI l ∧ F_F_mayDrive φ x a b c = some (nI 1) ∧ F_M_isPeg ν x a b c = some (nI 1)) ∨ (F_F_mayDrive φ x a b c = some (nI 0) ∧ F_M_isPeg ν x a b c = some (nI 0)) := by
  unfold F_F_mayDrive F_M_isPeg
  simp only [lit, litL]
  rcases dPeg hc hm x with ⟨k, hk, e, h1, h2⟩ | ⟨h1, h2⟩
  · rcases dich a 0 5 (by decide) (by decide) with ⟨i, _, hi, ei, h3, h4⟩ | ⟨h3, h4⟩
    · rcases dich b 0 9 (by decide) (by decide) with ⟨j, _, hj, ej, h5, h6⟩ | ⟨h5, h6⟩
      · rcases dich c 0 9 (by decide) (by decide) with ⟨l, _, hl, el, h7, h8⟩ | ⟨h7, h8⟩
        · left; rw [h1, h2, h3, h4, h5, h6, h7, h8]; exact ⟨k, i, j, l, hk, hi, hj, hl, e, ei, ej, el, rfl, rfl⟩
        · right; rw [h1, h2, h3, h4, h5, h6, h7, h8]; exact ⟨rfl, rfl⟩
      · right; rw [h1, h2, h3, h4, h5, h6]; exact ⟨rfl, rfl⟩
    · right; rw [h1, h2, h3, h4]; exact ⟨rfl, rfl⟩
  · right; rw [h1, h2]; exact ⟨rfl, rfl⟩
theorem C_driven {φ : Mem} {b : Nat} {t : Nat → Nat} (h : CF φ b t) {k i j l : Nat} (hk : k < 8) : CF (stI (stI (stI φ (b + 1) k (nI i)) (b + 2) k (nI j)) (b + 3) k (nI l)) b (tset (tset (tset t (5 + k) i) (13 + k) j) (21 + k) l) :=
  ((h.r (o := 1) (c := 5) (by omega) hk).r (o := 2) (c := 13) (by omega) hk).r (o := 3) (c := 21) (by omega) hk
theorem wf_driven {t : Nat → Nat} (h : Wf t) {k i j l : Nat} (hk : k < 8) (hi : i ≤ 5) (hj : j ≤ 9) (hl : l ≤ 9) : Wf (tset (tset (tset t (5 + k) i) (13 + k) j) (21 + k) l) :=
  ((h.set (by omega)).set (by omega)).set (by omega)
theorem M_drive {ν : Mem} {t : Nat → Nat} (h : MF (ν.1 2) t) {k : Nat} (hk : k < 8) (i j l : Nat) : F_M_drive ν (nI k) (nI i) (nI j) (nI l) = some (stI (stI (stI ν 2 (5 + k) (nI i)) 2 (13 + k) (nI j)) 2 (21 + k) (nI l)) ∧ MF ((stI (stI (stI ν 2 (5 + k) (nI i)) 2 (13 + k) (nI j)) 2 (21 + k) (nI l)).1 2) (tset (tset (tset t (5 + k) i) (13 + k) j) (21 + k) l) := by
  constructor
  · unfold F_M_drive
    rw [lit 5, lit 13, lit 21, nI_add, nI_add, nI_add, gd_nI (by omega) (by decide), gd_nI (by omega) (by decide), gd_nI (by omega) (by decide), nclamp (by omega), nclamp (by omega), nclamp (by omega)]
  · rw [stI_same, stI_same, stI_same]
    exact ((h.set _ _).set _ _).set _ _
theorem ok_peg {μ ν : Mem} (h : Rel μ ν) (x a b c : Int32) : okI Rel (F_T_peg μ x a b c) (F_M_peg ν x a b c) := by
  obtain ⟨t, f1, f2, f3⟩ := h.1
  have hm : MS (stI ν 0 0 0) t := start_ms ⟨f3, f1⟩
  unfold F_T_peg F_M_peg
  rcases dDrive f2.sub hm x a b c with ⟨k, i, j, l, hk, hi, hj, hl, e1, e2, e3, e4, h1, h2⟩ | ⟨h1, h2⟩
  · have h8 := hm.n2
    rw [h1, h2, e1, e2, e3, e4, lit 5, nI_add, bnd_s, bnd_s, if_neg (by decide), if_neg (by decide), gd_nI (by omega) (by decide), gd_nI (by omega) (by decide), C_drive _ k (by omega), (M_drive hm.1 (by omega) i j l).1, bnd_s, bnd_s, nclamp (by omega), nclamp (by omega)]
    refine ok_fld h SCF.put ((SMF.of (SM.st0 ν)).tr ((SMF.st.tr SMF.st).tr SMF.st)) (wf_driven f1 (by omega) hi hj hl) (CF.put (C_driven (b := 0) f2.sub (by omega))) (M_drive hm.1 (by omega) i j l).2 ?_
    rw [f2.2.1 k (by omega), f3 _ (by omega)]
  · rw [h1, h2]
    simp only [bnd_s, gz0, br0, T_bad, M_bad]
    exact ok_bad h (SC.rf μ) (SM.st0 ν) _
theorem tog_with : ∀ s, s < 256 → ∀ k, k < 8 → ∀ b, b < 2 → (s.testBit k).toNat ≠ b → F_T_with (nI s) (nI k) (nI b) = some (nI (tog s k)) := by decide +kernel
theorem tog_lt : ∀ s, s < 256 → ∀ k, k < 8 → tog s k < 256 := by decide +kernel
theorem tog_lt2 : ∀ n, n < 9 → ∀ s, s < 2 ^ n → ∀ k, k < n → tog s k < 2 ^ n := by decide +kernel
theorem ok_wall {μ ν : Mem} (h : Rel μ ν) (x y : Int32) : okI Rel (F_T_wall μ x (if y = 0 then 0 else 1)) (F_M_wall ν x (if y = 0 then 0 else 1)) := by
  obtain ⟨t, f1, f2, f3⟩ := h.1
  obtain ⟨b, hb, eb⟩ : ∃ b, b < 2 ∧ (if y = 0 then (0 : Int32) else 1) = nI b := by
    by_cases c : y = 0
    · exact ⟨0, by decide, by rw [if_pos c]; rfl⟩
    · exact ⟨1, by decide, by rw [if_neg c]; rfl⟩
  rw [eb]
  unfold F_T_wall F_M_wall F_F_hasWall F_F_putWall
  have w1 : (sub 1 μ).1 0 2 = nI (t 3) := f2.1.2.2.1
  have w2 : ν.1 2 (3 : Int32).toNatClampNeg = nI (t 3) := f3 3 (by decide)
  have h256 : t 3 < 256 := f1.2.2.2.2.1
  rw [w1, w2]
  rcases dWay x with ⟨v, hv, e, h1, h2⟩ | ⟨h1, h2⟩
  · rw [h1, h2, e, bnd_s, bnd_s, if_neg (by decide), if_pos (by decide), hasT _ h256 _ hv, hasM _ h256 _ hv, gd_t (by decide), bnd_s, bnd_s, gd_t (by unfold isZ; cases (t 3).testBit v <;> decide), bnd_s]
    by_cases c : ((t 3).testBit v).toNat = b
    · rw [if_pos (by rw [c]), if_pos (by rw [c]), T_no, M_no]
      exact ok_no h (SC.rf μ) (SM.st0 ν) _
    · have cn : ¬ nI ((t 3).testBit v).toNat = nI b := fun q => c ((nI_eq (by have := toNat_le ((t 3).testBit v); omega) (by omega)).mp q)
      rw [if_neg cn, if_neg cn, tog_with _ h256 _ hv _ hb c, bnd_s, bnd_s, gd_t (by decide), gd_t (by decide), xorM _ h256 _ hv]
      refine ok_fld (t := tset t 3 (tog (t 3) v)) h SCF.put ((SMF.of (SM.st0 ν)).tr SMF.st) (f1.set (Or.inr (Or.inr (Or.inl ⟨rfl, tog_lt _ h256 _ hv⟩)))) (CF.put (f2.sub.s (by omega))) ?_ rfl
      rw [stI_same]; exact MF.set f3 3 _
  · rw [h1, h2]
    simp only [bnd_s, gz0, br0, br1, T_bad, M_bad]
    exact ok_bad h (SC.rf μ) (SM.st0 ν) _
theorem ok_odds {μ ν : Mem} (h : Rel μ ν) (x y : Int32) : okI Rel (F_T_odds μ x y) (F_M_odds ν x y) := by
  obtain ⟨t, f1, f2, f3⟩ := h.1
  unfold F_T_odds F_M_odds F_F_mayBet F_M_odds_24
  simp only [lit, litL]
  rcases dWay x with ⟨v, hv, e, h1, h2⟩ | ⟨h1, h2⟩
  · rcases dich y 0 20 (by decide) (by decide) with ⟨n, a, b, e2, h3, h4⟩ | ⟨h3, h4⟩
    · rw [h1, h2, h3, h4, e, e2]
      simp only [bnd_s, brn0, brn1]
      rw [nI_add, gd_nI hv (by decide), gd_nI hv (by decide), gd_nI (by omega) (by decide), gd_nI (by omega) (by decide), nclamp (by omega), nclamp (by omega)]
      refine ok_fld (t := tset t (29 + v) n) h (SCF.st (by omega)) ((SMF.of (SM.st0 ν)).tr SMF.st) (f1.set (by omega)) (f2.r (o := 4) (c := 29) (by omega) hv) ?_ ?_
      · rw [stI_same]; exact MF.set f3 _ n
      · rw [f2.2.2.2.2.1 v hv, f3 _ (by omega)]
    · rw [h1, h2, h3, h4]
      simp only [bnd_s, brn0, brn1, T_bad, M_bad]
      exact ok_bad h (SC.rf μ) (SM.st0 ν) _
  · rw [h1, h2]
    simp only [bnd_s, brn0, brn1, T_bad, M_bad]
    exact ok_bad h (SC.rf μ) (SM.st0 ν) _
