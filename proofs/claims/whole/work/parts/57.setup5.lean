/-! Pure part (28): the class's count from all down to none; the first order. -/
theorem C_17 {t : Nat → Nat} {pr v s : Nat} (hp : 1 ≤ pr ∧ pr ≤ 4) (hv : v < 8) (hs : s ≤ 61) (hn : t 0 ≤ 8) : ∀ d, d < 1000 → ∀ (μ : Mem) (st0 : Nat), GB μ t st0 → d ≤ 2 ^ t 0 → R11 μ t pr v s d → ∃ m, F_P_countOrders_17 μ (nI pr) (nI v) (nI s) (nI (2 ^ t 0 - 1)) (nI d + -1) = some m ∧ CF m 1 t ∧ SC μ m ∧ R11 m t pr v s 0 := by
  have hpow := pow_le (t 0) hn
  refine fun d hd => iter_run (fun d (g : Mem → Int32 → Int32 → Int32 → Int32 → Int32 → Option Mem) => ∀ (μ : Mem) (st0 : Nat), GB μ t st0 → d ≤ 2 ^ t 0 → R11 μ t pr v s d → ∃ m, g μ (nI pr) (nI v) (nI s) (nI (2 ^ t 0 - 1)) (nI d + -1) = some m ∧ CF m 1 t ∧ SC μ m ∧ R11 m t pr v s 0) ?_ ?_ NF d (NF_lt hd)
  · intro g μ st0 h hd hR
    unfold S_P_countOrders_17
    rw [if_pos (show nI 0 + -1 < 0 by decide)]
    exact ⟨μ, rfl, h.1, SC.rf μ, hR⟩
  · intro d g ih μ st0 h hd hR
    have hA : GB (stI μ 7 4 (nI d)) t d := GB.mk2 h (K789.i7 μ 4 _ (by omega)) (by rw [stI_same, upd_same]) (by omega)
    have hB : GB (stI (stI μ 7 4 (nI d)) 11 d (nI (cl t pr v s d))) t d := by
      obtain ⟨b1, b2, b3, b4, b5, b6, b7, b8, b9, b10⟩ := hA
      exact ⟨b1.keep (fun j q r => stI_ne _ _ _ (by omega)), b2, b3, b4, b5, b6, by rw [stI_ne _ _ _ (by decide)]; exact b7, by rw [stI_ne _ _ _ (by decide)]; exact b8, by rw [stI_ne _ _ _ (by decide)]; exact b9, by rw [stI_ne _ _ _ (by decide)]; exact b10⟩
    rw [m1_add, C_17step h hp hv hs (show d < 2 ^ t 0 by omega) hR g]
    obtain ⟨m, e1, e2, e3, e4⟩ := ih _ d hB (by omega) (fun j q r => by
      rw [stI_same, upd_at, stI_ne _ _ _ (by decide)]
      by_cases c : j = d
      · rw [if_pos c, c]
      · rw [if_neg c]; exact hR j (by omega) r)
    exact ⟨m, e1, e2, ((SC.st (by omega)).tr (SC.st (by omega))).tr e3, e4⟩
/-- the first peg that may follow -/
def fst' (t : Nat → Nat) (pr v s st : Nat) : Nat → Nat → Option Nat
  | 0, _ => none
  | d + 1, k => if cw t pr v s st k = 0 then fst' t pr v s st d (k + 1) else some k
theorem fst_ok {t : Nat → Nat} {pr v s st : Nat} : ∀ d k r, fst' t pr v s st d k = some r → k ≤ r ∧ r < k + d ∧ cw t pr v s st r ≠ 0 := by
  intro d
  induction d with
  | zero => intro k r h; cases h
  | succ d ih =>
    intro k r h
    have h' : (if cw t pr v s st k = 0 then fst' t pr v s st d (k + 1) else some k) = some r := h
    by_cases c : cw t pr v s st k = 0
    · rw [if_pos c] at h'
      have := ih _ _ h'
      exact ⟨by omega, by omega, this.2.2⟩
    · rw [if_neg c] at h'
      have : k = r := Option.some.inj h'
      subst this
      exact ⟨Nat.le_refl _, by omega, c⟩
theorem fst_none {t : Nat → Nat} {pr v s st : Nat} : ∀ d k a, fst' t pr v s st d k = none → fN (cw t pr v s st) d k a = a := by
  intro d
  induction d with
  | zero => intro k a _; rfl
  | succ d ih =>
    intro k a h
    have h' : (if cw t pr v s st k = 0 then fst' t pr v s st d (k + 1) else some k) = none := h
    by_cases c : cw t pr v s st k = 0
    · rw [if_pos c] at h'
      show fN (cw t pr v s st) d (k + 1) (a + cw t pr v s st k) = a
      rw [c]; exact ih _ _ h'
    · rw [if_neg c] at h'; cases h'
theorem C_may {μ : Mem} {t : Nat → Nat} {pr v s st : Nat} (h : CF μ 1 t) (hn : t 0 ≤ 8) (hst : st < 2 ^ t 0) (hR : R11 μ t pr v s 0) : ∀ d, d < 1000 → ∀ k, k + d = t 0 → F_P_leastThatMayFollow_2 μ (nI st) (nI k) = some (bI (fst' t pr v s st d k)) := by
  have h256 : st < 256 := Nat.lt_of_lt_of_le hst (pow_le _ hn)
  refine fun d hd => iter_run (fun d (g : Mem → Int32 → Int32 → Option Int32) => ∀ k, k + d = t 0 → g μ (nI st) (nI k) = some (bI (fst' t pr v s st d k))) ?_ ?_ NF d (NF_lt hd)
  · intro g k hk
    unfold S_P_leastThatMayFollow_2
    rw [show μ.1 1 0 = nI (t 0) from h.1.1, if_pos ((nI_leI (by omega) (by omega)).mpr (by omega))]
    rfl
  · intro d g ih k hk
    unfold S_P_leastThatMayFollow_2
    have ef : fst' t pr v s st (d + 1) k = (if cw t pr v s st k = 0 then fst' t pr v s st d (k + 1) else some k) := rfl
    rw [show μ.1 1 0 = nI (t 0) from h.1.1, if_neg (fun q => by have := (nI_leI (by omega) (by omega)).mp q; omega), hasT _ h256 _ (by omega), bnd_s, nI_1, ef, ih (k + 1) (by omega)]
    cases hb : st.testBit k with
    | true =>
      have e0 : cw t pr v s st k = 0 := by unfold cw; rw [hb]; rfl
      rw [if_neg (by decide), if_pos e0]
    | false =>
      have hlt := sett_lt _ h256 _ (show k < 8 by omega)
      have hlt2 := sett_lt2 _ (by omega) _ hst k (by omega)
      have hcl : cl t pr v s (sett st k) ≤ 16777216 := by
        have := cc_le hn pr v s (sett st k)
        unfold cl; split <;> omega
      rw [if_pos (by decide), orM _ h256 _ (by omega), gd_nI hlt (by decide), nclamp (by omega), hR _ (Nat.zero_le _) hlt2, ← cl_cw h256 (show k < 8 by omega) hb]
      by_cases c : cl t pr v s (sett st k) = 0
      · rw [if_pos (show nI (cl t pr v s (sett st k)) ≤ 0 from (nI_leI (b := 0) (by omega) (by omega)).mpr (by omega)), if_pos c]
      · rw [if_neg (show ¬ nI (cl t pr v s (sett st k)) ≤ 0 from fun q => by have := (nI_leI (b := 0) (by omega) (by omega)).mp q; omega), if_neg c]
        rfl
