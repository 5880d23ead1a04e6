/-! Pure part (27): the class's count of orders. -/
def cl (t : Nat → Nat) (pr v s j : Nat) : Nat := if j = 0 ∨ bo t pr v s j = true then cc t pr v s j else 0
def R11 (μ : Mem) (t : Nat → Nat) (pr v s lo : Nat) : Prop := ∀ j, lo ≤ j → j < 2 ^ t 0 → μ.1 11 j = nI (cl t pr v s j)
theorem sett_ne : ∀ s, s < 256 → ∀ k, k < 8 → sett s k ≠ 0 := by decide +kernel
theorem cl_cw {t : Nat → Nat} {pr v s st k : Nat} (h : st < 256) (hk : k < 8) (hb : st.testBit k = false) : cl t pr v s (sett st k) = cw t pr v s st k := by
  unfold cl cw
  have h0 := sett_ne st h k hk
  rw [hb]
  cases bo t pr v s (sett st k) with
  | true => rw [if_pos (Or.inr rfl)]; rfl
  | false => rw [if_neg (fun q => q.elim h0 (fun q => by cases q))]; rfl
theorem orT : ∀ s, s < 256 → ∀ k, k < 8 → nI s ||| (1 <<< (nI k &&& 31)) = nI (sett s k) := orM
theorem C_more {μ : Mem} {t : Nat → Nat} {pr v s st : Nat} (h : CF μ 1 t) (hn : t 0 ≤ 8) (hst : st < 2 ^ t 0) (hR : R11 μ t pr v s (st + 1)) : ∀ d, d < 1000 → ∀ k a, k + d = t 0 → F_P_ordersWithOneMore_4 μ (nI st) (nI a) (nI k) = some (nI (fN (cw t pr v s st) d k a)) := by
  have h256 : st < 256 := Nat.lt_of_lt_of_le hst (pow_le _ hn)
  refine fun d hd => iter_run (fun d (g : Mem → Int32 → Int32 → Int32 → Option Int32) => ∀ k a, k + d = t 0 → g μ (nI st) (nI a) (nI k) = some (nI (fN (cw t pr v s st) d k a))) ?_ ?_ NF d (NF_lt hd)
  · intro g k a hk
    unfold S_P_ordersWithOneMore_4
    rw [show μ.1 1 0 = nI (t 0) from h.1.1, if_pos ((nI_leI (by omega) (by omega)).mpr (by omega))]
    rfl
  · intro d g ih k a hk
    unfold S_P_ordersWithOneMore_4
    have ew : fN (cw t pr v s st) (d + 1) k a = fN (cw t pr v s st) d (k + 1) (a + cw t pr v s st k) := rfl
    rw [show μ.1 1 0 = nI (t 0) from h.1.1, if_neg (fun q => by have := (nI_leI (by omega) (by omega)).mp q; omega), hasT _ h256 _ (by omega), bnd_s, nI_1, ew]
    cases hb : st.testBit k with
    | true =>
      have e0 : cw t pr v s st k = 0 := by unfold cw; rw [hb]; rfl
      rw [if_neg (by decide), ih (k + 1) a (by omega), e0, Nat.add_zero]
    | false =>
      have hlt := sett_lt _ h256 _ (show k < 8 by omega)
      have hlt2 := sett_lt2 _ (by omega) _ hst k (by omega)
      have hgt := sett_gt _ h256 _ (show k < 8 by omega) hb
      rw [if_pos (by decide), orM _ h256 _ (by omega), gd_nI hlt (by decide), nclamp (by omega), hR _ (by omega) hlt2, nI_add, ih (k + 1) _ (by omega), cl_cw h256 (by omega) hb]
theorem C_17step {μ : Mem} {t : Nat → Nat} {pr v s st st0 : Nat} (h : GB μ t st0) (hp : 1 ≤ pr ∧ pr ≤ 4) (hv : v < 8) (hs : s ≤ 61) (hst : st < 2 ^ t 0) (hR : R11 μ t pr v s (st + 1)) (g : Mem → Int32 → Int32 → Int32 → Int32 → Int32 → Option Mem) : S_P_countOrders_17 g μ (nI pr) (nI v) (nI s) (nI (2 ^ t 0 - 1)) (nI st) = g (stI (stI μ 7 4 (nI st)) 11 st (nI (cl t pr v s st))) (nI pr) (nI v) (nI s) (nI (2 ^ t 0 - 1)) (nI st + -1) := by
  have hn := GS.n2 h
  have hpow := pow_le (t 0) hn.2
  have h256 : st < 256 := by omega
  have h8 := pc_le st h256
  have hA : GB (stI μ 7 4 (nI st)) t st := GB.mk2 h (K789.i7 μ 4 _ (by omega)) (by rw [stI_same, upd_same]) hst
  have RA : R11 (stI μ 7 4 (nI st)) t pr v s (st + 1) := fun j q r => by rw [stI_ne _ _ _ (by decide)]; exact hR j q r
  have efull : (nI st = nI (2 ^ t 0 - 1)) ↔ st = 2 ^ t 0 - 1 := nI_eq (by omega) (by omega)
  have v98 : F_P_countOrders_98 g (stI μ 7 4 (nI st)) (nI pr) (nI v) (nI s) (nI (2 ^ t 0 - 1)) (nI st) = g (stI (stI μ 7 4 (nI st)) 11 st (nI (cc t pr v s st))) (nI pr) (nI v) (nI s) (nI (2 ^ t 0 - 1)) (nI st + -1) := by
    unfold F_P_countOrders_98 F_P_ordersWithOneMore
    by_cases c : st = 2 ^ t 0 - 1
    · rw [if_pos (efull.mpr c), gd_nI h256 (by decide), nclamp (by omega), show cc t pr v s st = 1 by rw [c]; exact cc_full hn.2 pr v s]; rfl
    · rw [if_neg (fun q => c (efull.mp q)), show F_P_ordersWithOneMore_4 (stI μ 7 4 (nI st)) (nI st) 0 0 = _ from C_more hA.1 hn.2 hst RA (t 0) (by omega) 0 0 (by omega), bnd_s, gd_nI h256 (by decide), nclamp (by omega), cc_sum hn.2 pr v s hst c]
  have v87 : F_P_countOrders_87 g (stI μ 7 4 (nI st)) (nI pr) (nI v) (nI s) (nI (2 ^ t 0 - 1)) (nI st) = g (stI (stI μ 7 4 (nI st)) 11 st (nI 0)) (nI pr) (nI v) (nI s) (nI (2 ^ t 0 - 1)) (nI st + -1) := by
    unfold F_P_countOrders_87
    rw [gd_nI h256 (by decide), nclamp (by omega)]; rfl
  have v48 : 1 ≤ pc st → F_P_countOrders_48 g μ (nI pr) (nI v) (nI s) (nI (2 ^ t 0 - 1)) (nI st) (nI (pc st)) = g (stI (stI μ 7 4 (nI st)) 11 st (nI (if (decide (2 ≤ pc st) && takes t st v s 0 (t 3)) = true then cc t pr v s st else 0))) (nI pr) (nI v) (nI s) (nI (2 ^ t 0 - 1)) (nI st + -1) := by
    intro h1
    unfold F_P_countOrders_48 F_P_countOrders_53
    rw [if_neg (show ¬ (1 : Int32) = 0 by decide), C_takes hA hv hs, tD_0, bnd_s, v87, v98]
    by_cases c : pc st = 1
    · rw [if_pos (show nI (pc st) = 1 by rw [c]; rfl), decide_eq_false (by omega), Bool.false_and]; rfl
    · rw [if_neg (show ¬ nI (pc st) = 1 from fun q => c ((nI_eq (b := 1) (by omega) (by omega)).mp q)), decide_eq_true (by omega), Bool.true_and]
      cases takes t st v s 0 (t 3)
      · rw [if_pos (by decide)]; rfl
      · rw [if_neg (by decide)]; rfl
  sorry
