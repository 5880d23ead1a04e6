/-! Pure part (25): the check's count of orders. -/
theorem m1_add (d : Nat) : nI (d + 1) + -1 = nI d := by
  rw [show (-1 : Int32) = -nI 1 from rfl, ← Int32.sub_eq_add_neg, nsub (by omega)]; rfl
def R10 (ν : Mem) (t : Nat → Nat) (pr v s lo : Nat) : Prop := ∀ j, lo ≤ j → j < 2 ^ t 0 → ν.1 10 j = nI (cc t pr v s j)
theorem M_in78 {t : Nat → Nat} {pr v s st : Nat} (hp : 1 ≤ pr ∧ pr ≤ 4) (hv : v < 8) (hs : s ≤ 61) (hst : st < 2 ^ t 0) (hn : t 0 ≤ 8) (o : Int32) (K : Mem → Int32 → Int32 → Int32 → Int32 → Int32 → Option (Int32 × Mem)) : ∀ d, d < 1000 → ∀ (ν : Mem) (k a : Nat), MS ν t → k + d = t 0 → R10 ν t pr v s (st + 1) → ν.1 10 st = nI a → ∃ ν1, F_M_setUp_78 K ν (nI pr) (nI v) (nI s) o (nI st) (nI k) = K ν1 (nI pr) (nI v) (nI s) o (nI st + -1) ∧ MS ν1 t ∧ SM ν ν1 ∧ R10 ν1 t pr v s (st + 1) ∧ ν1.1 10 st = nI (fN (cw t pr v s st) d k a) := by
  have h256 : st < 256 := Nat.lt_of_lt_of_le hst (pow_le _ hn)
  have hpow := pow_le (t 0) hn
  refine fun d hd => iter_run (fun d (g : Mem → Int32 → Int32 → Int32 → Int32 → Int32 → Int32 → Option (Int32 × Mem)) => ∀ (ν : Mem) (k a : Nat), MS ν t → k + d = t 0 → R10 ν t pr v s (st + 1) → ν.1 10 st = nI a → ∃ ν1, g ν (nI pr) (nI v) (nI s) o (nI st) (nI k) = K ν1 (nI pr) (nI v) (nI s) o (nI st + -1) ∧ MS ν1 t ∧ SM ν ν1 ∧ R10 ν1 t pr v s (st + 1) ∧ ν1.1 10 st = nI (fN (cw t pr v s st) d k a)) ?_ ?_ NF d (NF_lt hd)
  · intro g ν k a h hk hR ha
    unfold S_M_setUp_78
    rw [gd_t (by decide), show (0 : Int32).toNatClampNeg = 0 from rfl, h.n, if_pos ((nI_leI (by omega) (by omega)).mpr (by omega))]
    exact ⟨ν, rfl, h, SM.rf ν, hR, ha⟩
  · intro d g ih ν k a h hk hR ha
    have step : ∀ x : Nat, ∃ ν1, g (stI ν 10 st (nI (a + x))) (nI pr) (nI v) (nI s) o (nI st) (nI (k + 1)) = K ν1 (nI pr) (nI v) (nI s) o (nI st + -1) ∧ MS ν1 t ∧ SM ν ν1 ∧ R10 ν1 t pr v s (st + 1) ∧ ν1.1 10 st = nI (fN (cw t pr v s st) d (k + 1) (a + x)) := by
      intro x
      obtain ⟨ν1, e1, e2, e3, e4, e5⟩ := ih (stI ν 10 st (nI (a + x))) (k + 1) (a + x) (h.stI (by decide)) (by omega) (fun j q r => by rw [stI_same, upd_ne _ _ (by omega)]; exact hR j q r) (by rw [stI_same, upd_same])
      exact ⟨ν1, e1, e2, (SM.st (by omega)).tr e3, e4, e5⟩
    unfold S_M_setUp_78
    rw [gd_t (by decide), show (0 : Int32).toNatClampNeg = 0 from rfl, h.n, if_neg (fun q => by have := (nI_leI (by omega) (by omega)).mp q; omega), gd_nI (by omega) (by decide), gd_nI (by omega) (by decide), gd_nI (by omega) (by decide), hasM _ h256 _ (by omega), bnd_s, nclamp (by omega), ha, nI_1]
    show ∃ ν1, _ = _ ∧ MS ν1 t ∧ SM ν ν1 ∧ R10 ν1 t pr v s (st + 1) ∧ ν1.1 10 st = nI (fN (cw t pr v s st) d (k + 1) (a + cw t pr v s st k))
    have s0 := step 0
    have zz : nI a + 0 = nI (a + 0) := nI_add a 0
    have ew : cw t pr v s st k = (if st.testBit k then 0 else if bo t pr v s (sett st k) then cc t pr v s (sett st k) else 0) := rfl
    rw [zz, ew]
    cases hb : st.testBit k with
    | true => rw [if_neg (by decide)]; exact s0
    | false =>
      have hlt := sett_lt _ h256 _ (show k < 8 by omega)
      have hlt2 := sett_lt2 _ (by omega) _ hst k (by omega)
      have hgt := sett_gt _ h256 _ (show k < 8 by omega) hb
      rw [if_pos (by decide), orM _ h256 _ (by omega), M_borne h hp hv hs hlt, bnd_s]
      cases hbo : bo t pr v s (sett st k) with
      | false => rw [if_pos (by decide)]; exact s0
      | true =>
        rw [if_neg (by decide), gd_nI hlt (by decide), nclamp (by omega), hR (sett st k) (by omega) hlt2, nI_add]
        exact step _
