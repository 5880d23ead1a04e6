/-! Pure part (21): nights. -/
theorem lN_toI {a : Nat} (h : a < 2 ^ 63) : (lN a).toInt = (a : Int) := Int64.toInt_ofNat_of_lt h
theorem ldivL {a d : Nat} (ha : a < 2 ^ 63) (hd : d < 2 ^ 63) : lN a / lN d = lN (a / d) := by
  have h0 : a / d < 2 ^ 63 := Nat.lt_of_le_of_lt (Nat.div_le_self a d) ha
  apply Int64.toInt_inj.mp
  rw [Int64.toInt_div, lN_toI ha, lN_toI hd, lN_toI h0, ← Int.ofNat_tdiv]
  generalize a / d = q at h0 ⊢
  exact Int.bmod_eq_of_le (by omega) (by omega)
theorem lmodL {a d : Nat} (ha : a < 2 ^ 63) (hd : d < 2 ^ 63) : lN a - lN a / lN d * lN d = lN (a % d) := by
  rw [ldivL ha hd, lN_mul, lN_sub (Nat.div_mul_le_self a d)]
  congr 1
  have := Nat.mod_add_div a d
  rw [Nat.mul_comm] at this
  omega
def nxt (a : Nat) : Nat := (a * 1103515245 + 12345) % 2147483648
theorem nxt_lt (a : Nat) : nxt a < 2147483648 := Nat.mod_lt _ (by decide)
theorem lcg {a : Nat} (h : a < 2147483648) : (lN a * 1103515245 + 12345) - (lN a * 1103515245 + 12345) / 2147483648 * 2147483648 = lN (nxt a) := by
  rw [litL 1103515245, litL 12345, litL 2147483648, lN_mul, lN_add]
  exact lmodL (by omega) (by decide)
def vN (a : Nat) : Nat := a / 65536 % 8
def sN (a m : Nat) : Nat := a / 65536 % (m + 1)
theorem vN_l {a : Nat} (h : a < 2147483648) : ((lN a / 65536) - (lN a / 65536) / 8 * 8).toInt32 = nI (vN a) := by
  rw [litL 65536, litL 8, ldivL (by omega) (by decide), lmodL (by omega) (by decide), lN_i]; rfl
theorem sN_l {a m : Nat} (h : a < 2147483648) (hm : m ≤ 60) : ((lN a / 65536) - (lN a / 65536) / ((nI m + 1).toInt64) * ((nI m + 1).toInt64)).toInt32 = nI (sN a m) := by
  rw [nI_1, nI_l (by omega), litL 65536, ldivL (by omega) (by decide), lmodL (by omega) (by omega), lN_i]; rfl
theorem vN_lt (a : Nat) : vN a < 8 := Nat.mod_lt _ (by decide)
theorem sN_le {a m : Nat} (hm : m ≤ 60) : sN a m ≤ 60 := by
  have := Nat.mod_lt (a / 65536) (show 0 < m + 1 by omega)
  unfold sN; omega
theorem mz {m : Nat} (hm : m ≤ 60) : ¬ (nI m + 1).toInt64 = 0 := by
  rw [nI_1, nI_l (by omega)]
  exact fun e => by have := (lN_eq (b := 0) (by omega) (by omega)).mp e; omega
def chk (l : Int32) (st i : Nat) : Int32 := if l = -1 then (if 2 ≤ pc st then l else nI i) else l
def wkd (n : Nat) (kk : Int32) (st i : Nat) : Nat := if nI i = kk then 2 ^ n - 1 else st
def nt (t : Nat → Nat) (m : Nat) (kk : Int32) : Nat → Nat → Nat → Nat → Int32 → Int32 × Nat
  | 0, i, _, st, l => (chk l st i, wkd (t 0) kk st i)
  | d + 1, i, z, st, l => nt t m kk d (i + 1) (nxt (nxt z)) (gustS t (wkd (t 0) kk st i) (vN (nxt z)) (sN (nxt (nxt z)) m)).1 (chk l st i)
theorem wkd_lt {t : Nat → Nat} (w : Wf t) {kk : Int32} {st i : Nat} (h : st < 2 ^ t 0) : wkd (t 0) kk st i < 2 ^ t 0 := by
  have := Nat.pow_pos (n := t 0) (show 0 < 2 by decide)
  unfold wkd
  generalize 2 ^ t 0 = N at *
  split <;> omega
theorem nt_lt {t : Nat → Nat} (w : Wf t) (m : Nat) (kk : Int32) : ∀ d i z st l, st < 2 ^ t 0 → (nt t m kk d i z st l).2 < 2 ^ t 0 := by
  intro d
  induction d with
  | zero => intro i z st l h; exact wkd_lt w h
  | succ d ih => intro i z st l h; exact ih _ _ _ _ (gustS_lt w (wkd_lt w h))
theorem C_night {t : Nat → Nat} {m x2 : Nat} (hm : m ≤ 60) (h2 : x2 ≤ 60) : ∀ d, d < 1000 → ∀ (μ : Mem) (st0 i z : Nat) (l : Int32) (st : Nat), GB μ t st → st0 = st → z < 2147483648 → i + d = m → ∃ m1, F_P_passNight_27 μ (nI m) (nI x2) (chk l st i) (lN z) (nI (i + 1)) = some ((nt t x2 (-1) d i z st l).1, m1) ∧ GB m1 t (nt t x2 (-1) d i z st l).2 ∧ SC μ m1 := by
  refine fun d hd => iter_run (fun d (g : Mem → Int32 → Int32 → Int32 → Int64 → Int32 → Option (Int32 × Mem)) => ∀ (μ : Mem) (st0 i z : Nat) (l : Int32) (st : Nat), GB μ t st → st0 = st → z < 2147483648 → i + d = m → ∃ m1, g μ (nI m) (nI x2) (chk l st i) (lN z) (nI (i + 1)) = some ((nt t x2 (-1) d i z st l).1, m1) ∧ GB m1 t (nt t x2 (-1) d i z st l).2 ∧ SC μ m1) ?_ ?_ NF d (NF_lt hd)
  · intro g μ st0 i z l st h _ hz hi
    have e : wkd (t 0) (-1) st i = st := if_neg (ne_m1 (by omega))
    unfold S_P_passNight_27
    rw [if_pos ((nI_ltI (by omega) (by omega)).mpr (by omega))]
    refine ⟨μ, rfl, ?_, SC.rf μ⟩
    show GB μ t (wkd (t 0) (-1) st i)
    rw [e]; exact h
  · intro d g ih μ st0 i z l st h _ hz hi
    have w : Wf t := h.2.1
    have e : wkd (t 0) (-1) st i = st := if_neg (ne_m1 (by omega))
    have q1 := nxt_lt z
    have q2 := nxt_lt (nxt z)
    obtain ⟨m1, b1, b2, b3, b4, b5⟩ := C_blow h (vN_lt (nxt z)) (sN_le (a := nxt (nxt z)) h2)
    have hlt := gustS_lt w (v := vN (nxt z)) (s := sN (nxt (nxt z)) x2) h.2.2.1
    have hb : GB m1 t (gustS t st (vN (nxt z)) (sN (nxt (nxt z)) x2)).1 := GB.mk2 h b2 b3 hlt
    have h256 : (gustS t st (vN (nxt z)) (sN (nxt (nxt z)) x2)).1 < 256 := Nat.lt_of_lt_of_le hlt (pow_le _ w.2.1)
    have n1 : F_P_nextOf (lN z) = some (lN (nxt z)) := congrArg some (lcg hz)
    have n2 : F_P_nextOf (lN (nxt z)) = some (lN (nxt (nxt z))) := congrArg some (lcg q1)
    unfold S_P_passNight_27
    rw [if_neg (fun q => by have := (nI_ltI (by omega) (by omega)).mp q; omega), n1, bnd_s, n2, bnd_s, if_neg (mz h2), vN_l q1, sN_l q2 h2, b1, bnd_s, b3, lostC h256, nI_1]
    show ∃ m2, _ = some ((nt t x2 (-1) d (i + 1) (nxt (nxt z)) (gustS t (wkd (t 0) (-1) st i) (vN (nxt z)) (sN (nxt (nxt z)) x2)).1 (chk l st i)).1, m2) ∧ GB m2 t (nt t x2 (-1) d (i + 1) (nxt (nxt z)) (gustS t (wkd (t 0) (-1) st i) (vN (nxt z)) (sN (nxt (nxt z)) x2)).1 (chk l st i)).2 ∧ SC μ m2
    rw [e]
    obtain ⟨m2, g1, g2, g3⟩ := ih m1 _ (i + 1) (nxt (nxt z)) (chk l st i) _ hb rfl q2 (by omega)
    refine ⟨m2, ?_, g2, (SC.of789 b2).tr g3⟩
    rw [← g1]
    generalize chk l st i = c
    unfold chk
    by_cases c1 : c = -1
    · rw [if_pos c1, if_pos c1, bnd_s]
      by_cases c2 : 2 ≤ pc (gustS t st (vN (nxt z)) (sN (nxt (nxt z)) x2)).1
      · rw [if_pos c2, if_pos c2, br0]
      · rw [if_neg c2, if_neg c2, br1]
    · rw [if_neg c1, if_neg c1]
theorem M_draws {ν : Mem} {a : Nat} (h : a < 2147483648) (e : ν.2 20 = lN a) : F_M_draws ν = some (lN (nxt a) / 65536, stL ν 20 (lN (nxt a))) := by
  unfold F_M_draws
  rw [e, lcg h]
def ntM (t : Nat → Nat) (m : Nat) (kk : Int32) : Nat → Nat → Nat → Nat → Int32 → Int32 × Nat
  | 0, _, _, st, l => (l, st)
  | d + 1, i, z, st, l => nt t m kk d i z st l
theorem M_night {t : Nat → Nat} {m x2 : Nat} (hm : m ≤ 60) (h2 : x2 ≤ 60) (kk : Int32) : ∀ d, d < 1000 → ∀ (ν : Mem) (i z st : Nat), MS ν t → st < 2 ^ t 0 → ν.2 20 = lN z → z < 2147483648 → i + d = m + 1 → ∃ ν1, F_M_nightOf_22 ν (nI m) (nI x2) kk (nI st) (nI i) = some (nI (ntM t x2 kk d i z st (ν.1 0 21)).2, ν1) ∧ ν1.1 0 21 = (ntM t x2 kk d i z st (ν.1 0 21)).1 ∧ MS ν1 t ∧ SM ν ν1 := by
  refine fun d hd => iter_run (fun d (g : Mem → Int32 → Int32 → Int32 → Int32 → Int32 → Option (Int32 × Mem)) => ∀ (ν : Mem) (i z st : Nat), MS ν t → st < 2 ^ t 0 → ν.2 20 = lN z → z < 2147483648 → i + d = m + 1 → ∃ ν1, g ν (nI m) (nI x2) kk (nI st) (nI i) = some (nI (ntM t x2 kk d i z st (ν.1 0 21)).2, ν1) ∧ ν1.1 0 21 = (ntM t x2 kk d i z st (ν.1 0 21)).1 ∧ MS ν1 t ∧ SM ν ν1) ?_ ?_ NF d (NF_lt hd)
  · intro g ν i z st h hst hz1 hz hi
    unfold S_M_nightOf_22
    rw [if_pos ((nI_ltI (by omega) (by omega)).mpr (by omega))]
    exact ⟨ν, rfl, rfl, h, SM.rf ν⟩
  · intro d g ih ν i z st h hst hz1 hz hi
    have w : Wf t := h.2
    have hn := h.n2
    have h256 : st < 256 := Nat.lt_of_lt_of_le hst (pow_le _ w.2.1)
    have hpc := pc_le st h256
    have q1 := nxt_lt z
    have q2 := nxt_lt (nxt z)
    have hwk := wkd_lt w (kk := kk) (i := i) hst
    have top : S_M_nightOf_22 g ν (nI m) (nI x2) kk (nI st) (nI i) = F_M_nightOf_80 g (stI ν 0 21 (chk (ν.1 0 21) st i)) (nI m) (nI x2) kk (nI i) (nI (wkd (t 0) kk st i)) := by
      have e55 : ∀ s0, F_M_nightOf_55 g ν (nI m) (nI x2) kk (nI st) (nI i) s0 = F_M_nightOf_80 g (stI ν 0 21 s0) (nI m) (nI x2) kk (nI i) (nI (wkd (t 0) kk st i)) := by
        intro s0
        unfold F_M_nightOf_55 wkd
        rw [gd_t (by decide), show (0 : Int32).toNatClampNeg = 0 from rfl, h.n, allT _ (by omega)]
        by_cases c : nI i = kk
        · rw [if_pos c, if_pos c]
        · rw [if_neg c, if_neg c]
      unfold S_M_nightOf_22 F_M_nightOf_51
      rw [if_neg (fun q => by have := (nI_ltI (by omega) (by omega)).mp q; omega), e55, e55, pcM _ h256, bnd_s, lit 2]
      unfold chk
      by_cases c1 : ν.1 0 21 = -1
      · rw [if_pos c1, if_pos c1]
        by_cases c2 : 2 ≤ pc st
        · rw [if_pos ((nI_leI (by omega) (by omega)).mpr c2), if_pos c2]
        · rw [if_neg (fun q => c2 ((nI_leI (by omega) (by omega)).mp q)), if_neg c2]
      · rw [if_neg c1, if_neg c1]
    rw [top]
    have hA : MS (stI ν 0 21 (chk (ν.1 0 21) st i)) t := h.stI (by decide)
    have sA : SM ν (stI ν 0 21 (chk (ν.1 0 21) st i)) := SM.s0 (by decide)
    have lA : (stI ν 0 21 (chk (ν.1 0 21) st i)).1 0 21 = chk (ν.1 0 21) st i := by rw [stI_same, upd_same]
    have zA : (stI ν 0 21 (chk (ν.1 0 21) st i)).2 20 = lN z := hz1
    show ∃ ν1, _ = some (nI (nt t x2 kk d i z st (ν.1 0 21)).2, ν1) ∧ ν1.1 0 21 = (nt t x2 kk d i z st (ν.1 0 21)).1 ∧ MS ν1 t ∧ SM ν ν1
    generalize stI ν 0 21 (chk (ν.1 0 21) st i) = νA at hA sA lA zA ⊢
    unfold F_M_nightOf_80
    rw [nI_1]
    cases d with
    | zero =>
      rw [if_pos ((nI_leI (by omega) (by omega)).mpr (by omega))]
      obtain ⟨ν1, e1, e2, e3, e4⟩ := ih νA (i + 1) z _ hA hwk zA hz (by omega)
      rw [e1]
      refine ⟨ν1, rfl, ?_, e3, sA.tr e4⟩
      rw [e2]; exact lA
    | succ d =>
      have hB : MS (stL νA 20 (lN (nxt z))) t := hA.stL
      have hC : MS (stL (stL νA 20 (lN (nxt z))) 20 (lN (nxt (nxt z)))) t := hB.stL
      have sC : SM νA (stL (stL νA 20 (lN (nxt z))) 20 (lN (nxt (nxt z)))) := (SM.l (by omega)).tr (SM.l (by omega))
      have dB := M_draws (ν := stL νA 20 (lN (nxt z))) q1 (by rw [stL_2, if_pos rfl])
      have zC : (stL (stL νA 20 (lN (nxt z))) 20 (lN (nxt (nxt z)))).2 20 = lN (nxt (nxt z)) := by rw [stL_2, if_pos rfl]
      have lC : (stL (stL νA 20 (lN (nxt z))) 20 (lN (nxt (nxt z)))).1 0 21 = chk (ν.1 0 21) st i := lA
      rw [if_neg (fun q => by have := (nI_leI (by omega) (by omega)).mp q; omega), M_draws hz zA, bnd_s]
      show ∃ ν1, bnd (F_M_draws (stL νA 20 (lN (nxt z)))) _ = _ ∧ _
      rw [dB, bnd_s]
      show ∃ ν1, (if ((nI x2 + 1).toInt64) = 0 then none else _) = _ ∧ _
      rw [if_neg (mz h2), show (lN (nxt z) / 65536 - lN (nxt z) / 65536 / (8 : Int64) * (8 : Int64)).toInt32 = nI (vN (nxt z)) from vN_l q1, show (lN (nxt (nxt z)) / 65536 - lN (nxt (nxt z)) / 65536 / ((nI x2 + 1).toInt64) * ((nI x2 + 1).toInt64)).toInt32 = nI (sN (nxt (nxt z)) x2) from sN_l q2 h2]
      generalize stL (stL νA 20 (lN (nxt z))) 20 (lN (nxt (nxt z))) = νC at hC sC zC lC ⊢
      obtain ⟨ν2, g1, g2, g3, g4⟩ := M_behind hC hwk (vN_lt (nxt z)) (sN_le (a := nxt (nxt z)) h2)
      rw [g1, bnd_s]
      obtain ⟨ν1, e1, e2, e3, e4⟩ := ih ν2 (i + 1) (nxt (nxt z)) _ (g2.ms hC) (gustS_lt w hwk) (by rw [g2.2.2]; exact zC) q2 (by omega)
      have l2 : ν2.1 0 21 = chk (ν.1 0 21) st i := by rw [g2.2.1 21 (by decide)]; exact lC
      rw [l2] at e1 e2
      exact ⟨ν1, e1, e2, e3, sA.tr (sC.tr ((SM.ofKM g2).tr e4))⟩
