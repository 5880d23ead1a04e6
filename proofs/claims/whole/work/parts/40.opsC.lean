/-! Pure part (11): gust, stand, undo, of, pull, first, lost. -/
theorem C_asItIs {μ : Mem} {t : Nat → Nat} (h : CF μ 1 t) (w : Wf t) : ∃ m, F_T_asItIs μ = some m ∧ GB m t (t 1) ∧ (∀ k, k ≠ 7 → m.1 k = μ.1 k) ∧ m.2 = μ.2 := by
  refine ⟨_, rfl, ⟨?_, w, w.2.2.1, w.2.2.2.2.1, by decide, by decide, ?_, ?_, ?_, ?_⟩, fun k q => ?_, rfl⟩
  · refine h.keep (fun k q1 q2 => ?_)
    rw [stI_ne _ _ _ (by omega), stI_ne _ _ _ (by omega), stI_ne _ _ _ (by omega), stI_ne _ _ _ (by omega)]
  · rw [stI_same, upd_ne _ _ (by decide), stI_same, upd_ne _ _ (by decide), stI_same, upd_ne _ _ (by decide), stI_same, upd_same]; exact h.1.2.2.2.1
  · rw [stI_same, upd_ne _ _ (by decide), stI_same, upd_ne _ _ (by decide), stI_same, upd_same]; exact h.1.2.2.1
  · rw [stI_same, upd_ne _ _ (by decide), stI_same, upd_same]; rfl
  · rw [stI_same, upd_same]; rfl
  · rw [stI_ne _ _ _ q, stI_ne _ _ _ q, stI_ne _ _ _ q, stI_ne _ _ _ q]
theorem SC.of7 {μ m : Mem} (h : ∀ k, k ≠ 7 → m.1 k = μ.1 k) : SC μ m := fun k q => h k (by omega)
theorem Wf.st256 {t : Nat → Nat} (w : Wf t) : t 1 < 256 := Nat.lt_of_lt_of_le w.2.2.1 (pow_le _ w.2.1)
theorem lostC {s : Nat} (h : s < 256) : F_T_isLost (nI s) = some (nI (if 2 ≤ pc s then 0 else 1)) := by
  unfold F_T_isLost
  have := pc_le s h
  rw [pcT s h, bnd_s, lit 2]
  by_cases c : 2 ≤ pc s
  · rw [if_pos ((nI_leI (by decide) (by omega)).mpr c), if_pos c]; rfl
  · rw [if_neg (fun q => c ((nI_leI (by decide) (by omega)).mp q)), if_neg c]; rfl
theorem lostM {ν : Mem} {t : Nat → Nat} (h : MS ν t) : F_M_isLost ν = some (nI (if 2 ≤ pc (t 1) then 0 else 1)) := by
  have h256 := h.2.st256
  unfold F_M_isLost
  have := pc_le _ h256
  rw [gd_t (by decide), show (1 : Int32).toNatClampNeg = 1 from rfl, h.at 1 (by decide), pcM _ h256, bnd_s, lit 2]
  by_cases c : 2 ≤ pc (t 1)
  · rw [if_pos ((nI_leI (by decide) (by omega)).mpr c), if_pos c]; rfl
  · rw [if_neg (fun q => c ((nI_leI (by decide) (by omega)).mp q)), if_neg c]; rfl
theorem gustS_lt {t : Nat → Nat} (w : Wf t) {st v s : Nat} (h : st < 2 ^ t 0) : (gustS t st v s).1 < 2 ^ t 0 := gu_lt w.2.1 _ _ _ h
theorem ok_gust {μ ν : Mem} (h : Rel μ ν) (x y : Int32) : okI Rel (F_T_gust μ x y) (F_M_gust ν x y) := by
  obtain ⟨t, f1, f2, f3⟩ := h.1
  have hm : MS (stI ν 0 0 0) t := start_ms ⟨f3, f1⟩
  unfold F_T_gust F_M_gust
  rcases dGust x y with ⟨v, s, hv, hs, e1, e2, h1, h2⟩ | ⟨h1, h2⟩
  · rw [h1, h2, e1, e2, lostM hm, show μ.1 1 3 = nI (t 1) from f2.1.2.2.2.1, lostC f1.st256]
    by_cases c : 2 ≤ pc (t 1)
    · rw [if_pos c]
      simp only [bnd_s, br0, br1]
      obtain ⟨φ1, p1, p2⟩ := C_remember f2.sub f1
      obtain ⟨ν1, q1, q2, q3, q4⟩ := M_keep hm
      have w1 := keep_wf f1
      obtain ⟨m4, r1, r2, r3, r4⟩ := C_asItIs (CF.put (μ := μ) (b := 1) p2) w1
      obtain ⟨m5, b1, b2, b3, b4, b5⟩ := C_blow r2 hv hs
      rw [p1, bnd_s, r1, bnd_s, b1, bnd_s, q1, bnd_s, gd_t (by decide), show (1 : Int32).toNatClampNeg = 1 from rfl, q2.at 1 (by decide)]
      obtain ⟨ν2, g1, g2, g3, g4⟩ := M_behind q2 w1.2.2.1 hv hs
      have hcf : CF m5 1 (keep t) := (r2.1).keep (fun k q1 q2 => b2.1 k (by omega) (by omega) (by omega))
      rw [g1]
      simp only [bnd_s]
      rw [gd_t (by decide), b3, b4, g3]
      refine ok_fld (t := tset (keep t) 1 (gustS (keep t) (keep t 1) v s).1) h ?_ ?_ (w1.set (Or.inl ⟨rfl, gustS_lt w1 w1.2.2.1⟩)) (hcf.s (by omega)) ?_ rfl
      · refine (SCF.tr SCF.put (SCF.of ((SC.of7 r3).tr (SC.of789 b2)))).tr (SCF.st (by omega))
      · exact (((SMF.of (SM.st0 ν)).tr (SMF.no2 q3 q4)).tr (SMF.of (SM.ofKM g2))).tr SMF.st
      · rw [stI_same]; exact MF.set (KM.ms g2 q2).1 1 _
    · rw [if_neg c]
      simp only [bnd_s, br0, br1, T_no, M_no]
      exact ok_no h (SC.rf μ) (SM.st0 ν) _
  · rw [h1, h2]
    simp only [bnd_s, br0, br1, T_bad, M_bad]
    exact ok_bad h (SC.rf μ) (SM.st0 ν) _
theorem ok_stand {μ ν : Mem} (h : Rel μ ν) (x y : Int32) : okI Rel (F_T_stand μ x (if y = 0 then 0 else 1)) (F_M_stand ν x (if y = 0 then 0 else 1)) := by
  obtain ⟨t, f1, f2, f3⟩ := h.1
  have hm : MS (stI ν 0 0 0) t := start_ms ⟨f3, f1⟩
  obtain ⟨b, hb, eb⟩ : ∃ b, b < 2 ∧ (if y = 0 then (0 : Int32) else 1) = nI b := by
    by_cases c : y = 0
    · exact ⟨0, by decide, by rw [if_pos c]; rfl⟩
    · exact ⟨1, by decide, by rw [if_neg c]; rfl⟩
  rw [eb]
  unfold F_T_stand F_M_stand
  have h256 := f1.st256
  have hn := hm.n2
  rw [show μ.1 1 3 = nI (t 1) from f2.1.2.2.2.1, show ν.1 2 (1 : Int32).toNatClampNeg = nI (t 1) from f3 1 (by decide)]
  rcases dPeg f2.sub hm x with ⟨k, hk, e, h1, h2⟩ | ⟨h1, h2⟩
  · rw [h1, h2, e, hasT _ h256 _ (by omega), hasM _ h256 _ (by omega)]
    simp only [bnd_s, br0, br1]
    rw [gd_t (by decide)]
    by_cases c : ((t 1).testBit k).toNat = b
    · rw [if_pos (by rw [c]), if_pos (by rw [c]), T_no, M_no]
      exact ok_no h (SC.rf μ) (SM.st0 ν) _
    · have cn : ¬ nI ((t 1).testBit k).toNat = nI b := fun q => c ((nI_eq (by have := toNat_le ((t 1).testBit k); omega) (by omega)).mp q)
      obtain ⟨φ1, p1, p2⟩ := C_remember f2.sub f1
      obtain ⟨ν1, q1, q2, q3, q4⟩ := M_keep hm
      have w1 := keep_wf f1
      have k1 : keep t 1 = t 1 := kp_lo t (by decide) (by decide)
      rw [if_neg cn, if_neg cn, p1, q1, bnd_s, bnd_s, show φ1.1 0 3 = nI (t 1) from p2.1.2.2.2.1.trans (by rw [k1]), tog_with _ h256 _ (by omega) _ hb c, bnd_s, gd_t (by decide), gd_t (by decide), show (1 : Int32).toNatClampNeg = 1 from rfl, q2.at 1 (by decide), k1, xorM _ h256 _ (by omega)]
      refine ok_fld (t := tset (keep t) 1 (tog (t 1) k)) h (SCF.tr SCF.put (SCF.st (by omega))) (((SMF.of (SM.st0 ν)).tr (SMF.no2 q3 q4)).tr SMF.st) (w1.set (Or.inl ⟨rfl, ?_⟩)) (CF.s (CF.put p2) (by omega)) ?_ rfl
      · rw [show keep t 0 = t 0 from kp_lo t (by decide) (by decide)]
        exact tog_lt2 _ (by omega) _ f1.2.2.1 _ hk
      · rw [stI_same]; exact MF.set q2.1 1 _
  · rw [h1, h2]
    simp only [bnd_s, br0, br1, T_bad, M_bad]
    exact ok_bad h (SC.rf μ) (SM.st0 ν) _
theorem CF.dec {μ : Mem} {b : Nat} {t : Nat → Nat} (h : CF μ b t) {v : Nat} (hv : v ≤ t 4) : CF (stI μ b 4 (nI v)) b (tset t 4 v) := by
  obtain ⟨⟨a1, a2, a3, a4, a5⟩, b1, b2, b3, b4, b5⟩ := h
  have e : ∀ i, (stI μ b 4 (nI v)).1 b i = if i = 4 then nI v else μ.1 b i := fun i => by rw [stI_same, upd_at]
  refine ⟨by simp [e, tset, a1, a2, a3, a4], fun k q => ?_, fun k q => ?_, fun k q => ?_, fun k q => ?_, fun k q => ?_⟩
  · rw [stI_ne _ _ _ (by omega), ts_ne _ _ (by omega)]; exact b1 k q
  · rw [stI_ne _ _ _ (by omega), ts_ne _ _ (by omega)]; exact b2 k q
  · rw [stI_ne _ _ _ (by omega), ts_ne _ _ (by omega)]; exact b3 k q
  · rw [stI_ne _ _ _ (by omega), ts_ne _ _ (by omega)]; exact b4 k q
  · rw [ts_same] at q
    rw [stI_ne _ _ _ (by omega), ts_ne _ _ (by omega)]; exact b5 k (by omega)
theorem Wf.dec {t : Nat → Nat} (h : Wf t) {v : Nat} (hv : v ≤ t 4) : Wf (tset t 4 v) := by
  obtain ⟨a1, a2, a3, a4, a5, a6, a7, a8, a9, a10, a11⟩ := h
  have e : ∀ i, i ≠ 4 → tset t 4 v i = t i := fun i q => ts_ne _ _ q
  unfold Wf
  rw [ts_same, e 0 (by decide), e 1 (by decide), e 2 (by decide), e 3 (by decide)]
  exact ⟨a1, a2, a3, a4, a5, by omega, fun k q => by rw [e _ (by omega)]; exact a7 k q, fun k q => by rw [e _ (by omega)]; exact a8 k q, fun k q => by rw [e _ (by omega)]; exact a9 k q, fun k q => by rw [e _ (by omega)]; exact a10 k q, fun k q => by rw [e _ (by omega)]; exact a11 k (by omega)⟩
theorem ok_undo {μ ν : Mem} (h : Rel μ ν) : okI Rel (F_T_undo μ) (F_M_undo ν) := by
  obtain ⟨t, f1, f2, f3⟩ := h.1
  have h10 : t 4 ≤ 10 := f1.2.2.2.2.2.1
  unfold F_T_undo F_M_undo F_F_goBack
  rw [gd_t (show inb 4 47 = true by decide), show ν.1 2 (4 : Int32).toNatClampNeg = nI (t 4) from f3 4 (by decide), show (sub 1 μ).1 0 4 = nI (t 4) from f2.1.2.2.2.2]
  by_cases c : t 4 = 0
  · rw [if_pos (by rw [c]; decide), if_pos (by rw [c]; decide)]
    have e : put6 1 0 μ (sub 1 μ) = μ := by
      refine Prod.ext (funext fun k => ?_) rfl
      by_cases q : 1 ≤ k ∧ k < 7
      · obtain ⟨i, rfl⟩ : ∃ i, k = 1 + i := ⟨k - 1, by omega⟩
        rw [put6_in 1 0 μ _ (by omega)]; rfl
      · rw [put6_out 1 0 μ _ (by omega)]
    simp only [bnd_s, M_no, e, T_no]
    exact ok_no h (SC.rf μ) (SM.st0 ν) _
  · have cn : ¬ nI (t 4) = 0 := fun q => c ((nI_eq (by omega) (by decide)).mp (q.trans (lit 0)))
    have es : (stI (stI ν 0 0 0) 2 4 (nI (t 4 - 1))).1 2 4 = nI (t 4 - 1) := by rw [stI_same, upd_same]
    rw [if_neg cn, if_neg cn, lit 1, lit 37, nsub (by omega), gd_nI (by omega) (by decide), nclamp (by omega), gd_t (by decide), gd_t (by decide), gd_t (by decide), show (4 : Int32).toNatClampNeg = 4 from rfl, es, nI_add, gd_nI (by omega) (by decide), gd_t (by decide), nclamp (by omega)]
    have e1 : (stI (stI ν 0 0 0) 2 4 (nI (t 4 - 1))).1 2 (37 + (t 4 - 1)) = nI (t (37 + (t 4 - 1))) := by
      rw [stI_same, upd_ne _ _ (by omega)]; exact f3 _ (by omega)
    have e2 : (sub 1 μ).1 5 (t 4 - 1) = nI (t (37 + (t 4 - 1))) := f2.2.2.2.2.2 _ (by omega)
    rw [nclamp (show 37 + (t 4 - 1) < 2 ^ 31 by omega), e1, e2]
    simp only [bnd_s]
    rw [if_neg (by decide)]
    refine ok_fld (t := tset (tset t 4 (t 4 - 1)) 1 (t (37 + (t 4 - 1)))) h SCF.put (((SMF.of (SM.st0 ν)).tr SMF.st).tr SMF.st) ((f1.dec (by omega)).set (Or.inl ⟨rfl, f1.2.2.2.2.2.2.2.2.2.2 _ (by omega)⟩)) (CF.put (CF.s (CF.dec (CF.sub f2) (by omega)) (by omega))) ?_ rfl
    rw [stI_same, stI_same]
    exact (MF.set f3 4 _).set 1 _
theorem notin {x : Int32} {lo hi : Nat} (h1 : lo < 2 ^ 31) (h2 : hi < 2 ^ 31) (h : F_T_within x (nI lo) (nI hi) = some (nI 0)) {c : Nat} (hc : lo ≤ c ∧ c ≤ hi) : ¬ x = nI c := by
  intro q
  rw [q, T_within _ lo hi h1 h2, nI_toInt (by omega), if_pos ⟨by omega, by omega⟩] at h
  exact absurd h (by decide)
theorem ok_of {μ ν : Mem} (h : Rel μ ν) (x y : Int32) : okI Rel (F_T_of μ x y) (F_M_of ν x y) := by
  obtain ⟨t, f1, f2, f3⟩ := h.1
  have hm : MS (stI ν 0 0 0) t := start_ms ⟨f3, f1⟩
  obtain ⟨m, a1, a2, a3, a4⟩ := C_asItIs f2 f1
  have hn := hm.n2
  unfold F_T_of F_M_of F_M_of_25
  rcases dPeg f2.sub hm x with ⟨k, hk, e, h1, h2⟩ | ⟨h1, h2⟩
  · rw [h1, h2, e]
    rcases dich y 0 5 (by decide) (by decide) with ⟨j, _, hj, e2, h3, h4⟩ | ⟨h3, h4⟩
    · have hs : SC μ m := SC.of7 a3
      rw [litL 0, litL 5, h4, e2, a1]
      simp only [bnd_s, br0, br1, T_bad, M_bad]
      rw [lit 5, lit 13, lit 21, nI_add, nI_add, nI_add, gd_nI (show k < 8 by omega) (by decide), gd_nI (show k < 8 by omega) (by decide), gd_nI (show k < 8 by omega) (by decide), gd_nI (show 5 + k < 47 by omega) (by decide), gd_nI (show 13 + k < 47 by omega) (by decide), gd_nI (show 21 + k < 47 by omega) (by decide), nclamp (by omega), nclamp (by omega), nclamp (by omega), nclamp (by omega)]
      rw [show μ.1 2 k = nI (t (5 + k)) from f2.2.1 k (by omega), show μ.1 3 k = nI (t (13 + k)) from f2.2.2.1 k (by omega), show μ.1 4 k = nI (t (21 + k)) from f2.2.2.2.1 k (by omega), f3 (5 + k) (by omega), f3 (13 + k) (by omega), f3 (21 + k) (by omega)]
      rw [show μ.1 1 3 = nI (t 1) from f2.1.2.2.2.1, gd_t (show inb 1 47 = true by decide), gd_t (show inb 1 47 = true by decide), show ν.1 2 (1 : Int32).toNatClampNeg = nI (t 1) from f3 1 (by decide), hasT _ f1.st256 _ (by omega), M_holds hm hk f1.st256, C_holds a2 hk, C_wayOf a2 (by omega), M_wayOf hm (by omega), shrM _ f1.st256 _ (by omega)]
      rcases (show j = 0 ∨ j = 1 ∨ j = 2 ∨ j = 3 ∨ j = 4 ∨ j = 5 by omega) with rfl | rfl | rfl | rfl | rfl | rfl
      · exact ok_same h (SC.rf μ) (SM.st0 ν) rfl
      · exact ok_same h (SC.rf μ) (SM.st0 ν) rfl
      · exact ok_same h (SC.rf μ) (SM.st0 ν) rfl
      · refine ok_same h hs (SM.st0 ν) ?_
        have : holds (tD t 0) (t 1) k = holds t (t 1) k := by rw [tD_0]
        rw [this]
      · cases (t 1).testBit k
        · exact ok_same h (SC.rf μ) (SM.st0 ν) rfl
        · exact ok_same h (SC.rf μ) (SM.st0 ν) rfl
      · refine ok_same h hs (SM.st0 ν) ?_
        unfold way
        have : k * 8 / t 0 < 8 := (Nat.div_lt_iff_lt_mul (by omega)).mpr (by omega)
        rw [Nat.add_zero, Nat.mod_eq_of_lt this]
    · have ne : ∀ c, c ≤ 5 → ¬ y = nI c := fun c hc => notin (by decide) (by decide) h3 ⟨by omega, hc⟩
      rw [litL 0, litL 5, h4]
      simp only [bnd_s, br0, br1, T_bad, M_bad]
      rw [if_neg (show ¬ y = 0 from ne 0 (by decide)), if_neg (show ¬ y = 1 from ne 1 (by decide)), if_neg (show ¬ y = 2 from ne 2 (by decide)), if_neg (show ¬ y = 3 from ne 3 (by decide)), if_neg (show ¬ y = 4 from ne 4 (by decide)), if_neg (show ¬ y = 5 from ne 5 (by decide))]
      exact ok_bad h (SC.rf μ) (SM.st0 ν) _
  · rw [h1, h2]
    simp only [bnd_s, br0, br1, T_bad, M_bad]
    exact ok_bad h (SC.rf μ) (SM.st0 ν) _
