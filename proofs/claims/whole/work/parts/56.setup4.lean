/-! Pure part (27): the class's count of orders. -/
def cl (t : Nat → Nat) (pr v s j : Nat) : Nat := if j = 0 ∨ bo t pr v s j = true then cc t pr v s j else 0
def R11 (μ : Mem) (t : Nat → Nat) (pr v s lo : Nat) : Prop := ∀ j, lo ≤ j → j < 2 ^ t 0 → μ.1 11 j = nI (cl t pr v s j)
theorem sett_ne : ∀ s, s < 256 → ∀ k, k < 8 → sett s k ≠ 0 := by decide +kernel
theorem cl_cw {t : Nat → Nat} {pr v s st k : Nat} (h : st < 256) (hk : k < 8) (hb : st.testBit k = false) : cl t pr v s (sett st k) = cw t pr v s st k := by
  unfold cl cw
  have h0 := sett_ne st h k hk
  rw [hb]
  cases bo t pr v s (sett st k) with
  | true => rw [if_pos (Or.inr rfl)]; rfl
  | false => rw [if_neg (fun q => q.elim h0 (fun q => by cases q))]; rfl
theorem orT : ∀ s, s < 256 → ∀ k, k < 8 → nI s ||| (1 <<< (nI k &&& 31)) = nI (sett s k) := orM
theorem C_more {μ : Mem} {t : Nat → Nat} {pr v s st : Nat} (h : CF μ 1 t) (hn : t 0 ≤ 8) (hst : st < 2 ^ t 0) (hR : R11 μ t pr v s (st + 1)) : ∀ d, d < 1000 → ∀ k a, k + d = t 0 → F_P_ordersWithOneMore_4 μ (nI st) (nI a) (nI k) = some (nI (fN (cw t pr v s st) d k a)) := by
  have h256 : st < 256 := Nat.lt_of_lt_of_le hst (pow_le _ hn)
  refine fun d hd => iter_run (fun d (g : Mem → Int32 → Int32 → Int32 → Option Int32) => ∀ k a, k + d = t 0 → g μ (nI st) (nI a) (nI k) = some (nI (fN (cw t pr v s st) d k a))) ?_ ?_ NF d (NF_lt hd)
  · intro g k a hk
    unfold S_P_ordersWithOneMore_4
    rw [show μ.1 1 0 = nI (t 0) from h.1.1, if_pos ((nI_leI (by omega) (by omega)).mpr (by omega))]
    rfl
  · intro d g ih k a hk
    unfold S_P_ordersWithOneMore_4
    have ew : fN (cw t pr v s st) (d + 1) k a = fN (cw t pr v s st) d (k + 1) (a + cw t pr v s st k) := rfl
    rw [show μ.1 1 0 = nI (t 0) from h.1.1, if_neg (fun q => by have := (nI_leI (by omega) (by omega)).mp q; omega), hasT _ h256 _ (by omega), bnd_s, nI_1, ew]
    cases hb : st.testBit k with
    | true =>
      have e0 : cw t pr v s st k = 0 := by unfold cw; rw [hb]; rfl
      rw [if_neg (by decide), ih (k + 1) a (by omega), e0]; rfl
    | false =>
      have hlt := sett_lt _ h256 _ (show k < 8 by omega)
      have hlt2 := sett_lt2 _ (by omega) _ hst k (by omega)
      have hgt := sett_gt _ h256 _ (show k < 8 by omega) hb
      rw [if_pos (by decide), orM _ h256 _ (by omega), gd_nI hlt (by decide), nclamp (by omega), hR _ (by omega) hlt2, nI_add, ih (k + 1) _ (by omega), cl_cw h256 (by omega) hb]
theorem C_17step {μ : Mem} {t : Nat → Nat} {pr v s st st0 : Nat} (h : GB μ t st0) (hp : 1 ≤ pr ∧ pr ≤ 4) (hv : v < 8) (hs : s ≤ 61) (hst : st < 2 ^ t 0) (hR : R11 μ t pr v s (st + 1)) (g : Mem → Int32 → Int32 → Int32 → Int32 → Int32 → Option Mem) : S_P_countOrders_17 g μ (nI pr) (nI v) (nI s) (nI (2 ^ t 0 - 1)) (nI st) = g (stI (stI μ 7 4 (nI st)) 11 st (nI (cl t pr v s st))) (nI pr) (nI v) (nI s) (nI (2 ^ t 0 - 1)) (nI st + -1) := by
  have hn := GS.n2 h
  have hpow := pow_le (t 0) hn.2
  have h256 : st < 256 := by omega
  have h8 := pc_le st h256
  have hA : GB (stI μ 7 4 (nI st)) t st := GB.mk2 h (K789.i7 μ 4 _ (by omega)) (by rw [stI_same, upd_same]) hst
  have RA : R11 (stI μ 7 4 (nI st)) t pr v s (st + 1) := fun j q r => by rw [stI_ne _ _ _ (by decide)]; exact hR j q r
  have efull : (nI st = nI (2 ^ t 0 - 1)) ↔ st = 2 ^ t 0 - 1 := nI_eq (by omega) (by omega)
  have v98 : F_P_countOrders_98 g (stI μ 7 4 (nI st)) (nI pr) (nI v) (nI s) (nI (2 ^ t 0 - 1)) (nI st) = g (stI (stI μ 7 4 (nI st)) 11 st (nI (cc t pr v s st))) (nI pr) (nI v) (nI s) (nI (2 ^ t 0 - 1)) (nI st + -1) := by
    unfold F_P_countOrders_98 F_P_ordersWithOneMore
    by_cases c : st = 2 ^ t 0 - 1
    · rw [if_pos (efull.mpr c), gd_nI h256 (by decide), nclamp (by omega), show cc t pr v s st = 1 by rw [c]; exact cc_full hn.2 pr v s]; rfl
    · rw [if_neg (fun q => c (efull.mp q)), show F_P_ordersWithOneMore_4 (stI μ 7 4 (nI st)) (nI st) 0 0 = _ from C_more hA.1 hn.2 hst RA (t 0) (by omega) 0 0 (by omega), bnd_s, gd_nI h256 (by decide), nclamp (by omega), cc_sum hn.2 pr v s hst c]
  have v87 : F_P_countOrders_87 g (stI μ 7 4 (nI st)) (nI pr) (nI v) (nI s) (nI (2 ^ t 0 - 1)) (nI st) = g (stI (stI μ 7 4 (nI st)) 11 st (nI 0)) (nI pr) (nI v) (nI s) (nI (2 ^ t 0 - 1)) (nI st + -1) := by
    unfold F_P_countOrders_87
    rw [gd_nI h256 (by decide), nclamp (by omega)]; rfl
  have v48 : 1 ≤ pc st → F_P_countOrders_48 g μ (nI pr) (nI v) (nI s) (nI (2 ^ t 0 - 1)) (nI st) (nI (pc st)) = g (stI (stI μ 7 4 (nI st)) 11 st (nI (if (decide (2 ≤ pc st) && takes t st v s 0 (t 3)) = true then cc t pr v s st else 0))) (nI pr) (nI v) (nI s) (nI (2 ^ t 0 - 1)) (nI st + -1) := by
    intro h1
    unfold F_P_countOrders_48 F_P_countOrders_53
    rw [if_neg (show ¬ (1 : Int32) = 0 by decide), C_takes hA hv hs, tD_0, bnd_s, v87, v98]
    by_cases c : pc st = 1
    · rw [if_pos (show nI (pc st) = 1 by rw [c]; rfl), decide_eq_false (by omega), Bool.false_and]; rfl
    · rw [if_neg (show ¬ nI (pc st) = 1 from fun q => c ((nI_eq (b := 1) (by omega) (by omega)).mp q)), decide_eq_true (by omega), Bool.true_and]
      cases takes t st v s 0 (t 3)
      · rw [if_pos (by decide)]; rfl
      · rw [if_neg (by decide)]; rfl
  unfold S_P_countOrders_17
  have hmod : pc st % pr < 2 ^ 31 := Nat.lt_of_lt_of_le (Nat.mod_lt _ (by omega)) (by omega)
  have hz : ¬ nI pr = 0 := fun q => by have := (nI_eq (b := 0) (by omega) (by omega)).mp q; omega
  have hnn := pc_fulls (t 0) (by omega) st hst
  rw [if_neg (show ¬ nI st < 0 from fun q => by have := (nI_ltI (b := 0) (by omega) (by omega)).mp q; omega), pcT _ h256, bnd_s]
  have v41 : F_P_countOrders_41 g μ (nI pr) (nI v) (nI s) (nI (2 ^ t 0 - 1)) (nI st) (nI (pc st)) = (if st = 2 ^ t 0 - 1 then F_P_countOrders_48 g μ (nI pr) (nI v) (nI s) (nI (2 ^ t 0 - 1)) (nI st) (nI (pc st)) else F_P_countOrders_98 g (stI μ 7 4 (nI st)) (nI pr) (nI v) (nI s) (nI (2 ^ t 0 - 1)) (nI st)) := by
    unfold F_P_countOrders_41
    by_cases c : st = 2 ^ t 0 - 1
    · rw [if_pos (efull.mpr c), if_pos c]
    · rw [if_neg (fun q => c (efull.mp q)), if_neg c]
      unfold F_P_countOrders_53
      rw [if_pos rfl]
  rw [v41]
  unfold cl bo
  by_cases z : st = 0
  · have hp0 : pc st = 0 := (pc_0 st h256).mpr z
    have hnf : ¬ st = 2 ^ t 0 - 1 := fun q => by have := hnn.mpr q; omega
    rw [if_pos (show nI (pc st) ≤ 0 from (nI_leI (b := 0) (by omega) (by omega)).mpr (by omega)), if_neg hnf, if_pos (Or.inl z), v98]
  · have hp1 : 1 ≤ pc st := by
      have := (pc_0 st h256)
      rcases Nat.eq_zero_or_pos (pc st) with q | q
      · exact absurd (this.mp q) z
      · exact q
    have e0 : ∀ P : Prop, (st = 0 ∨ P) = P := fun P => propext ⟨fun q => q.elim (fun q => absurd q z) id, Or.inr⟩
    rw [if_neg (show ¬ nI (pc st) ≤ 0 from fun q => by have := (nI_leI (b := 0) (by omega) (by omega)).mp q; omega), if_neg hz, nmod (by omega) (by omega), v48 hp1, v98]
    simp only [e0]
    by_cases c1 : pc st % pr = 0
    · rw [if_pos (show nI (pc st % pr) = 0 by rw [c1]; rfl), if_pos (show pc st % pr = 0 ∨ pc st = t 0 from Or.inl c1)]
    · rw [if_neg (show ¬ nI (pc st % pr) = 0 from fun q => c1 ((nI_eq (b := 0) hmod (by omega)).mp q))]
      by_cases c2 : st = 2 ^ t 0 - 1
      · rw [if_pos c2, if_pos (show pc st % pr = 0 ∨ pc st = t 0 from Or.inr (hnn.mpr c2))]
      · rw [if_neg c2, if_neg (show ¬ (pc st % pr = 0 ∨ pc st = t 0) from fun q => q.elim c1 (fun q => c2 (hnn.mp q))), if_pos rfl]
