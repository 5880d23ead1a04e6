/-! Pure part (29): the orders, walked. -/
theorem nz {a : Nat} (h : a < 2 ^ 31) (h0 : a ≠ 0) : ¬ nI a = 0 := fun q => h0 ((nI_eq (b := 0) h (by decide)).mp q)
def ow (t : Nat → Nat) (pr v s : Nat) : Nat → Nat → Nat → Nat
  | 0, _, p => p
  | d + 1, st, _ => match fst' t pr v s st (t 0) 0 with
    | none => 0
    | some r => ow t pr v s d (sett st r) r
theorem ow_next {t : Nat → Nat} {pr v s st r : Nat} (e : fst' t pr v s st (t 0) 0 = some r) (d p : Nat) : ow t pr v s (d + 1) st p = ow t pr v s d (sett st r) r := by
  show (match fst' t pr v s st (t 0) 0 with
    | none => 0
    | some r => ow t pr v s d (sett st r) r) = _
  rw [e]
/-- there is a next one -/
theorem fst_some {t : Nat → Nat} {pr v s st : Nat} (hn : t 0 ≤ 8) (hst : st < 2 ^ t 0) (hc : cc t pr v s st ≠ 0) (hp : pc st < t 0) : ∃ r, fst' t pr v s st (t 0) 0 = some r ∧ r < t 0 ∧ sett st r < 2 ^ t 0 ∧ cc t pr v s (sett st r) ≠ 0 ∧ pc (sett st r) = pc st + 1 := by
  have h256 : st < 256 := Nat.lt_of_lt_of_le hst (pow_le _ hn)
  have hf : st ≠ 2 ^ t 0 - 1 := fun q => by have := (pc_fulls _ (by omega) _ hst).mpr q; omega
  cases e : fst' t pr v s st (t 0) 0 with
  | none => exact absurd ((cc_sum hn pr v s hst hf).trans (fst_none _ _ _ e)) hc
  | some r =>
    obtain ⟨a1, a2, a3⟩ := fst_ok _ _ _ e
    have hb : st.testBit r = false := by
      cases q : st.testBit r with
      | false => rfl
      | true => exact absurd (show cw t pr v s st r = 0 by unfold cw; rw [q]; rfl) a3
    refine ⟨r, rfl, by omega, sett_lt2 _ (by omega) _ hst r (by omega), fun q => a3 ?_, sett_pc _ h256 _ (by omega) hb⟩
    unfold cw
    rw [hb, q]
    cases bo t pr v s (sett st r) <;> rfl
theorem C_walk {μ : Mem} {t : Nat → Nat} {pr v s x : Nat} (h : CF μ 1 t) (hn : t 0 ≤ 8) (hR : R11 μ t pr v s 0) (hx : x < t 0) : ∀ d, d < 1000 → ∀ k st p, k + d = x + 1 → st < 2 ^ t 0 → cc t pr v s st ≠ 0 → pc st = k → ∀ pI, pI = nI p ∨ 0 < d → F_P_inFirstOrder_7 μ (nI x) (nI st) pI (nI k) = some (nI (ow t pr v s d st p)) := by
  refine fun d hd => iter_run (fun d (g : Mem → Int32 → Int32 → Int32 → Int32 → Option Int32) => ∀ k st p, k + d = x + 1 → st < 2 ^ t 0 → cc t pr v s st ≠ 0 → pc st = k → ∀ pI, pI = nI p ∨ 0 < d → g μ (nI x) (nI st) pI (nI k) = some (nI (ow t pr v s d st p))) ?_ ?_ NF d (NF_lt hd)
  · intro g k st p hk hst hc hp pI hpI
    unfold S_P_inFirstOrder_7
    rw [if_pos ((nI_ltI (by omega) (by omega)).mpr (by omega)), hpI.elim id (fun q => absurd q (by omega))]
    rfl
  · intro d g ih k st p hk hst hc hp pI _
    have h256 : st < 256 := Nat.lt_of_lt_of_le hst (pow_le _ hn)
    obtain ⟨r, a1, a2, a3, a4, a5⟩ := fst_some hn hst hc (by omega)
    unfold S_P_inFirstOrder_7 F_P_leastThatMayFollow
    rw [if_neg (fun q => by have := (nI_ltI (by omega) (by omega)).mp q; omega), show μ.1 1 0 = nI (t 0) from h.1.1, if_neg (fun q => by have := (nI_leI (by omega) (by omega)).mp q; omega), show F_P_leastThatMayFollow_2 μ (nI st) 0 = _ from C_may h hn hst hR (t 0) (by omega) 0 (by omega), bnd_s, a1, ow_next a1]
    rw [show bI (some r) = nI r from rfl, if_neg (fun q => ne_m1 (by omega) q), nI_1, orM _ h256 _ (by omega)]
    exact ih (k + 1) (sett st r) r (by omega) a3 a4 (by omega) (nI r) (Or.inl rfl)
theorem M_219 {ν : Mem} {t : Nat → Nat} {pr v s st : Nat} (h : MS ν t) (hp : 1 ≤ pr ∧ pr ≤ 4) (hv : v < 8) (hs : s ≤ 61) (hst : st < 2 ^ t 0) (hn : t 0 ≤ 8) (hR : R10 ν t pr v s 0) (o : Int32) (i : Nat) (K : Mem → Int32 → Int32 → Int32 → Int32 → Int32 → Int32 → Int32 → Option (Int32 × Mem)) : ∀ d, d < 1000 → ∀ k r, k + d = t 0 → fst' t pr v s st d k = some r → F_M_setUp_219 K ν (nI pr) (nI v) (nI s) o (nI st) (nI k) (nI i) = K ν (nI pr) (nI v) (nI s) o (nI (sett st r)) (nI r) (nI (i + 1)) := by
  have h256 : st < 256 := Nat.lt_of_lt_of_le hst (pow_le _ hn)
  refine fun d hd => iter_run (fun d (g : Mem → Int32 → Int32 → Int32 → Int32 → Int32 → Int32 → Int32 → Option (Int32 × Mem)) => ∀ k r, k + d = t 0 → fst' t pr v s st d k = some r → g ν (nI pr) (nI v) (nI s) o (nI st) (nI k) (nI i) = K ν (nI pr) (nI v) (nI s) o (nI (sett st r)) (nI r) (nI (i + 1))) ?_ ?_ NF d (NF_lt hd)
  · intro g k r _ e
    cases e
  · intro d g ih k r hk e
    have e' : (if cw t pr v s st k = 0 then fst' t pr v s st d (k + 1) else some k) = some r := e
    unfold S_M_setUp_219
    rw [hasM _ h256 _ (by omega), bnd_s, nI_1, nI_1]
    cases hb : st.testBit k with
    | true =>
      rw [if_neg (by decide)]
      rw [if_pos (show cw t pr v s st k = 0 by unfold cw; rw [hb]; rfl)] at e'
      exact ih (k + 1) r (by omega) e'
    | false =>
      have hlt := sett_lt _ h256 _ (show k < 8 by omega)
      have hlt2 := sett_lt2 _ (by omega) _ hst k (by omega)
      rw [if_pos (by decide), orM _ h256 _ (by omega), M_borne h hp hv hs hlt, bnd_s]
      cases hbo : bo t pr v s (sett st k) with
      | false =>
        rw [if_pos (by decide)]
        rw [if_pos (show cw t pr v s st k = 0 by unfold cw; rw [hb, hbo]; rfl)] at e'
        exact ih (k + 1) r (by omega) e'
      | true =>
        have ec : cw t pr v s st k = cc t pr v s (sett st k) := by unfold cw; rw [hb, hbo]; rfl
        have hle := cc_le hn pr v s (sett st k)
        rw [ec] at e'
        rw [if_neg (by decide), gd_nI hlt (by decide), nclamp (by omega), hR (sett st k) (by omega) hlt2]
        by_cases c : cc t pr v s (sett st k) = 0
        · rw [if_pos (show nI (cc t pr v s (sett st k)) = 0 by rw [c]; rfl)]
          rw [if_pos c] at e'
          exact ih (k + 1) r (by omega) e'
        · rw [if_neg (nz (by omega) c)]
          rw [if_neg c] at e'
          rw [Option.some.inj e']
theorem M_walk {ν : Mem} {t : Nat → Nat} {pr v s x : Nat} (h : MS ν t) (hp : 1 ≤ pr ∧ pr ≤ 4) (hv : v < 8) (hs : s ≤ 61) (hn : t 0 ≤ 8) (hR : R10 ν t pr v s 0) (hx : x < t 0) : ∀ d, d < 1000 → ∀ k st p, k + d = x + 1 → st < 2 ^ t 0 → cc t pr v s st ≠ 0 → pc st = k → ∀ pI, pI = nI p ∨ 0 < d → F_M_setUp_209 ν (nI pr) (nI v) (nI s) (nI x) (nI st) pI (nI k) = some (nI (ow t pr v s d st p), ν) := by
  refine fun d hd => iter_run (fun d (g : Mem → Int32 → Int32 → Int32 → Int32 → Int32 → Int32 → Int32 → Option (Int32 × Mem)) => ∀ k st p, k + d = x + 1 → st < 2 ^ t 0 → cc t pr v s st ≠ 0 → pc st = k → ∀ pI, pI = nI p ∨ 0 < d → g ν (nI pr) (nI v) (nI s) (nI x) (nI st) pI (nI k) = some (nI (ow t pr v s d st p), ν)) ?_ ?_ NF d (NF_lt hd)
  · intro g k st p hk hst hc hp pI hpI
    unfold S_M_setUp_209
    rw [if_pos ((nI_ltI (by omega) (by omega)).mpr (by omega)), hpI.elim id (fun q => absurd q (by omega))]
    rfl
  · intro d g ih k st p hk hst hc hpk pI _
    obtain ⟨r, a1, a2, a3, a4, a5⟩ := fst_some hn hst hc (by omega)
    unfold S_M_setUp_209
    rw [if_neg (fun q => by have := (nI_ltI (by omega) (by omega)).mp q; omega), show F_M_setUp_219 g ν (nI pr) (nI v) (nI s) (nI x) (nI st) 0 (nI k) = _ from M_219 h hp hv hs hst hn hR (nI x) k g (t 0) (by omega) 0 r (by omega) a1, ow_next a1]
    exact ih (k + 1) (sett st r) r (by omega) a3 a4 (by omega) (nI r) (Or.inl rfl)
theorem ge_m1 (x : Int32) (h : -1 ≤ x) : x = -1 ∨ ∃ j, j < 2 ^ 31 ∧ x = nI j := by
  have h1 : (-1 : Int) ≤ x.toInt := Int32.le_iff_toInt_le.mp h
  have h2 : x.toInt < 2 ^ 31 := Int32.toInt_lt x
  by_cases c : x.toInt = -1
  · left; exact Int32.toInt_inj.mp c
  · right
    exact ⟨x.toInt.toNat, by omega, Int32.toInt_inj.mp (by rw [nI_toInt (by omega)]; omega)⟩
theorem M_fend {ν : Mem} {t : Nat → Nat} {pr v s : Nat} (h : MS ν t) (hp : 1 ≤ pr ∧ pr ≤ 4) (hv : v < 8) (hs : s ≤ 61) (hn : t 0 ≤ 8) (hR : R10 ν t pr v s 0) : fend ν (nI pr) (nI v) (nI s) (-1) = some (nI (cc t pr v s 0), ν) ∧ ∀ x, x < 2 ^ 31 → fend ν (nI pr) (nI v) (nI s) (nI x) = some ((if cc t pr v s 0 = 0 then -1 else if t 0 ≤ x then -5 else nI (ow t pr v s (x + 1) 0 0)), ν) := by
  have hpow := Nat.two_pow_pos (t 0)
  have h0 : ν.1 10 0 = nI (cc t pr v s 0) := hR 0 (by omega) hpow
  have hle := cc_le hn pr v s 0
  constructor
  · unfold fend F_M_setUp_169
    rw [if_pos rfl, if_pos rfl, gd_t (by decide), show (0 : Int32).toNatClampNeg = 0 from rfl, h0]
  · intro x hx
    unfold fend F_M_setUp_169
    have hm : ¬ nI x = -1 := ne_m1 hx
    rw [if_neg hm, if_neg hm, gd_t (by decide), gd_t (by decide), show (0 : Int32).toNatClampNeg = 0 from rfl, h0, h.n]
    by_cases c : cc t pr v s 0 = 0
    · rw [if_pos (show nI (cc t pr v s 0) = 0 by rw [c]; rfl), if_pos c]
    · rw [if_neg (nz (by omega) c), if_neg c]
      by_cases c2 : t 0 ≤ x
      · rw [if_neg (fun q => by have := (nI_ltI (by omega) (by omega)).mp q; omega), if_pos c2]
      · rw [if_pos ((nI_ltI (by omega) (by omega)).mpr (by omega)), if_neg c2]
        exact M_walk h hp hv hs hn hR (show x < t 0 by omega) (x + 1) (by omega) 0 0 0 (by omega) hpow c rfl (-1) (Or.inr (by omega))
theorem ok_setUp {μ ν : Mem} (h : Rel μ ν) (x1 x2 x3 x4 : Int32) : okI Rel (F_T_setUp μ x1 x2 x3 x4) (F_M_setUp ν x1 x2 x3 x4) := by
  obtain ⟨t, f1, f2, f3⟩ := h.1
  have hm : MS (stI ν 0 0 0) t := start_ms ⟨f3, f1⟩
  obtain ⟨m, a1, a2, a3, a4⟩ := C_asItIs f2 f1
  have hn := GS.n2 a2
  have hpow := pow_le (t 0) hn.2
  have hpos := Nat.two_pow_pos (t 0)
  unfold F_T_setUp F_M_setUp F_T_setUp_23 F_M_setUp_31
  rcases dich x1 1 4 (by decide) (by decide) with ⟨pr, hp1, hp2, ep, g1, g2⟩ | ⟨g1, g2⟩
  · rw [show F_T_within x1 1 4 = some (nI 1) from g1, show F_M_in x1.toInt64 1 4 = some (nI 1) from g2]
    simp only [bnd_s, br0, br1]
    rcases dGust x2 x3 with ⟨v, s, hv, hs, ev, es, h1, h2⟩ | ⟨h1, h2⟩
    · rw [h1, h2]
      simp only [bnd_s, br0, br1]
      by_cases c : -1 ≤ x4
      · rw [if_pos c, if_pos c, a1, bnd_s]
        have hM0 : MS (stI (stI ν 0 0 0) 10 (2 ^ t 0 - 1) 1) t := hm.stI (by decide)
        obtain ⟨ν1, b1, b2, b3, b4⟩ := M_62 (o := x4) ⟨hp1, hp2⟩ hv (show s ≤ 61 by omega) hn.2 (2 ^ t 0 - 1) (by omega) (stI (stI ν 0 0 0) 10 (2 ^ t 0 - 1) 1) hM0 (by omega) (fun j q r => by
          rw [show j = 2 ^ t 0 - 1 by omega, stI_same, upd_same, cc_full hn.2]; rfl)
        obtain ⟨m4, d1, d2, d3, d4⟩ := C_17 (t := t) (pr := pr) (v := v) (s := s) ⟨hp1, hp2⟩ hv (by omega) hn.2 (2 ^ t 0) (by omega) m (t 1) a2 (Nat.le_refl _) (fun j q r => by omega)
        have eC : F_P_countOrders m x1 x2 x3 = some m4 := by
          unfold F_P_countOrders
          rw [show m.1 1 0 = nI (t 0) from a2.1.1.1, allT _ (by omega), ep, ev, es]
          refine Eq.trans ?_ d1
          rw [show (2 : Nat) ^ t 0 = (2 ^ t 0 - 1) + 1 by omega, m1_add, show (2 ^ t 0 - 1 + 1 - 1) = 2 ^ t 0 - 1 by omega]
        have hsc : SC μ m4 := (SC.of7 a3).tr d3
        have hsm : SM ν ν1 := ((SM.st0 ν).tr (SM.st (by omega))).tr b3
        have h0 : m4.1 11 0 = nI (cc t pr v s 0) := (d4 0 (Nat.zero_le _) hpos).trans (by unfold cl; rw [if_pos (Or.inl rfl)])
        have eM : F_M_setUp_62 (stI (stI ν 0 0 0) 10 (2 ^ t 0 - 1) 1) x1 x2 x3 x4 (nI (2 ^ t 0 - 1) - 1) = fend ν1 (nI pr) (nI v) (nI s) x4 := by
          rw [ep, ev, es, Int32.sub_eq_add_neg]; exact b1
        have hle := cc_le hn.2 pr v s 0
        obtain ⟨z1, z2⟩ := M_fend b2 ⟨hp1, hp2⟩ hv (show s ≤ 61 by omega) hn.2 b4
        unfold F_P_ordersFrom F_P_inFirstOrder
        rw [eC, bnd_s, gd_t (by decide), bnd_s, show (0 : Int32).toNatClampNeg = 0 from rfl, h0, gd_t (by decide), show ν.1 2 0 = nI (t 0) from f3 0 (by decide), allT _ (by omega), gd_nI (by omega) (by decide), nclamp (by omega), eM]
        rcases ge_m1 x4 c with e | ⟨x, hx, e⟩
        · rw [e, if_pos rfl, z1]
          exact ok_same h hsc hsm rfl
        · rw [e, if_neg (ne_m1 hx), z2 x hx, show m4.1 1 0 = nI (t 0) from d2.1.1]
          by_cases c0 : cc t pr v s 0 = 0
          · rw [if_pos (show nI (cc t pr v s 0) = 0 by rw [c0]; rfl), if_pos c0]
            exact ok_same h hsc hsm rfl
          · rw [if_neg (nz (by omega) c0), if_neg c0]
            by_cases c2 : t 0 ≤ x
            · rw [if_pos ((nI_leI (by omega) (by omega)).mpr c2), if_pos c2]
              exact ok_same h hsc hsm rfl
            · rw [if_neg (fun q => c2 ((nI_leI (by omega) (by omega)).mp q)), if_neg c2, show F_P_inFirstOrder_7 m4 (nI x) 0 (-1) 0 = _ from C_walk d2 hn.2 d4 (show x < t 0 by omega) (x + 1) (by omega) 0 0 0 (by omega) hpos c0 rfl (-1) (Or.inr (by omega)), bnd_s]
              exact ok_same h hsc hsm rfl
      · rw [if_neg c, if_neg c]
        simp only [bnd_s, T_bad, M_badTen]
        exact ok_bad h (SC.rf μ) (SM.st0 ν) _
    · rw [h1, h2]
      simp only [bnd_s, br0, br1, T_bad, M_badTen]
      exact ok_bad h (SC.rf μ) (SM.st0 ν) _
  · rw [show F_T_within x1 1 4 = some (nI 0) from g1, show F_M_in x1.toInt64 1 4 = some (nI 0) from g2]
    simp only [bnd_s, br0, br1, T_bad, M_badTen]
    exact ok_bad h (SC.rf μ) (SM.st0 ν) _
