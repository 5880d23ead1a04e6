/-! Pure part (12): pull, first, lost, pence, status, count, part, digest. -/
theorem M_pullNow {ν : Mem} {t : Nat → Nat} (h : MS ν t) {k v s : Nat} (hk : k < t 0) (hv : v < 8) (hs : s ≤ 61) : F_M_pullNow ν (nI k) (nI v) (nI s) = some (nI (if (t 1).testBit k then pull t k v s 0 (t 3) else 0)) := by
  have hn := h.n2
  unfold F_M_pullNow
  rw [gd_t (by decide), show (1 : Int32).toNatClampNeg = 1 from rfl, h.at 1 (by decide), hasM _ h.2.st256 _ (by omega), bnd_s, gd_t (by decide), show (3 : Int32).toNatClampNeg = 3 from rfl, h.at 3 (by decide), lit 0, M_pullOf h hk hv hs (by omega) h.2.2.2.2.2.1]
  cases (t 1).testBit k <;> rfl
theorem ok_pull {μ ν : Mem} (h : Rel μ ν) (x y z : Int32) : okI Rel (F_T_pull μ x y z) (F_M_pull ν x y z) := by
  obtain ⟨t, f1, f2, f3⟩ := h.1
  have hm : MS (stI ν 0 0 0) t := start_ms ⟨f3, f1⟩
  have hn := hm.n2
  unfold F_T_pull F_M_pull F_T_pull_19 F_M_pull_21
  rcases dPeg f2.sub hm x with ⟨k, hk, e, h1, h2⟩ | ⟨h1, h2⟩
  · rcases dGust y z with ⟨v, s, hv, hs, e1, e2, h3, h4⟩ | ⟨h3, h4⟩
    · obtain ⟨m, a1, a2, a3, a4⟩ := C_asItIs f2 f1
      rw [h1, h2, h3, h4, e, e1, e2, a1]
      simp only [bnd_s, br0, br1]
      rw [C_pullOn a2 (by omega) hv (by omega), bnd_s]
      rw [M_pullNow hm hk hv (by omega)]
      exact ok_same h (SC.of7 a3) (SM.st0 ν) rfl
    · rw [h1, h2, h3, h4]
      simp only [bnd_s, br0, br1, T_bad, M_bad]
      exact ok_bad h (SC.rf μ) (SM.st0 ν) _
  · rw [h1, h2]
    simp only [bnd_s, br0, br1, T_bad, M_bad]
    exact ok_bad h (SC.rf μ) (SM.st0 ν) _
theorem ok_first {μ ν : Mem} (h : Rel μ ν) (x y z : Int32) : okI Rel (F_T_first μ x y z) (F_M_first ν x y z) := by
  obtain ⟨t, f1, f2, f3⟩ := h.1
  have hm : MS (stI ν 0 0 0) t := start_ms ⟨f3, f1⟩
  unfold F_T_first F_M_first F_T_first_13 F_M_first_18
  rcases dGust x y with ⟨v, s, hv, hs, e1, e2, h1, h2⟩ | ⟨h1, h2⟩
  · rw [h1, h2, e1, e2]
    simp only [bnd_s, br0, br1, T_bad, M_badTen]
    by_cases c : -1 ≤ z
    · obtain ⟨m, a1, a2, a3, a4⟩ := C_asItIs f2 f1
      obtain ⟨m5, b1, b2, b3, b4, b5⟩ := C_blow a2 hv hs
      obtain ⟨ν2, g1, g2, g3, g4⟩ := M_behind hm f1.2.2.1 hv hs
      have hsc : SC μ m5 := (SC.of7 a3).tr (SC.of789 b2)
      have hsm : SM ν ν2 := (SM.st0 ν).tr (SM.ofKM g2)
      have hlen : (gustS t (t 1) v s).2.length ≤ 8 := Nat.le_trans (gu_len _ _ _) f1.2.1
      have hlt := gustS_lt f1 (v := v) (s := s) f1.2.2.1
      rw [if_pos c, if_pos c, a1, bnd_s, b1, bnd_s, gd_t (show inb 1 47 = true by decide), show ν.1 2 (1 : Int32).toNatClampNeg = nI (t 1) from f3 1 (by decide), g1, bnd_s]
      show okI Rel (if z = -1 then some (m5.1 7 3, m5) else if m5.1 7 3 ≤ z then some (-5, m5) else gd (inb z 8) (some (m5.1 9 z.toNatClampNeg, m5))) (if z = -1 then some (ν2.1 0 16, ν2) else if ν2.1 0 16 ≤ z then (if 0 ≤ nI (gustS t (t 1) v s).1 then some (-5, ν2) else some (nI (gustS t (t 1) v s).1, ν2)) else gd (inb z 8) (some (ν2.1 9 z.toNatClampNeg, ν2)))
      rw [b4, g3]
      by_cases c1 : z = -1
      · rw [if_pos c1, if_pos c1]
        exact ok_same h hsc hsm rfl
      · obtain ⟨j, hj, ez⟩ : ∃ j, j < 2 ^ 31 ∧ z = nI j := by
          have q1 : (-1 : Int32).toInt ≤ z.toInt := Int32.le_iff_toInt_le.mp c
          have q2 : ¬ z.toInt = -1 := fun q => c1 (Int32.toInt_inj.mp q)
          have q3 : (-1 : Int32).toInt = -1 := by decide
          have q4 := z.toInt_lt
          refine ⟨z.toInt.toNat, by omega, Int32.toInt_inj.mp ?_⟩
          rw [nI_toInt (by omega)]; omega
        rw [if_neg c1, if_neg c1, ez]
        by_cases c2 : (gustS t (t 1) v s).2.length ≤ j
        · have hp := pow_le (t 0) f1.2.1
          rw [if_pos ((nI_leI (by omega) hj).mpr c2), if_pos ((nI_leI (by omega) hj).mpr c2), if_pos (show (0 : Int32) ≤ nI (gustS t (t 1) v s).1 from (nI_leI (by decide) (by omega)).mpr (Nat.zero_le _))]
          exact ok_same h hsc hsm rfl
        · have cn : ¬ nI (gustS t (t 1) v s).2.length ≤ nI j := fun q => c2 ((nI_leI (by omega) hj).mp q)
          rw [if_neg cn, if_neg cn, gd_nI (by omega) (by decide), gd_nI (by omega) (by decide), nclamp hj]
          have hx : (gustS t (t 1) v s).2[j]? = some ((gustS t (t 1) v s).2[j]'(by omega)) := List.getElem?_eq_getElem (by omega)
          rw [b5 _ _ hx, g4 _ _ hx]
          exact ok_same h hsc hsm rfl
    · rw [if_neg c, if_neg c]
      exact ok_bad h (SC.rf μ) (SM.st0 ν) _
  · rw [h1, h2]
    simp only [bnd_s, br0, br1, T_bad, M_badTen]
    exact ok_bad h (SC.rf μ) (SM.st0 ν) _
theorem ok_lost {μ ν : Mem} (h : Rel μ ν) (x y z : Int32) : okI Rel (F_T_lost μ x y z) (F_M_lost ν x y z) := by
  obtain ⟨t, f1, f2, f3⟩ := h.1
  have hm : MS (stI ν 0 0 0) t := start_ms ⟨f3, f1⟩
  have hn := hm.n2
  unfold F_T_lost F_M_lost F_T_lost_19 F_M_lost_21
  rcases dPeg f2.sub hm x with ⟨k, hk, e, h1, h2⟩ | ⟨h1, h2⟩
  · rcases dGust y z with ⟨v, s, hv, hs, e1, e2, h3, h4⟩ | ⟨h3, h4⟩
    · obtain ⟨m, a1, a2, a3, a4⟩ := C_asItIs f2 f1
      have hlt : clr (t 1) k < 2 ^ t 0 := clr_lt2 _ (by omega) _ f1.2.2.1 _ hk
      have a5 : GB (stI m 7 4 (nI (clr (t 1) k))) t (clr (t 1) k) := GB.mk2 a2 (K789.i7 m 4 _ (by omega)) (by rw [stI_same, upd_same]) hlt
      obtain ⟨m5, b1, b2, b3, b4, b5⟩ := C_blow a5 hv hs
      obtain ⟨ν2, g1, g2, g3, g4⟩ := M_behind hm hlt hv hs
      have hsc : SC μ m5 := ((SC.of7 a3).tr (SC.st (by omega))).tr (SC.of789 b2)
      have hsm : SM ν ν2 := (SM.st0 ν).tr (SM.ofKM g2)
      rw [h1, h2, h3, h4, e, e1, e2, a1]
      simp only [bnd_s, br0, br1]
      rw [a2.stn, with0 _ f1.st256 _ (by omega), bnd_s, b1, bnd_s, gd_t (by decide), show ν.1 2 (1 : Int32).toNatClampNeg = nI (t 1) from f3 1 (by decide), andnM _ f1.st256 _ (by omega), g1, bnd_s, b3]
      by_cases c : nI (gustS t (clr (t 1) k) v s).1 = 0
      · simp only [if_pos c]
        exact ok_same h hsc hsm rfl
      · simp only [if_neg c]
        exact ok_same h hsc hsm rfl
    · rw [h1, h2, h3, h4]
      simp only [bnd_s, br0, br1, T_bad, M_bad]
      exact ok_bad h (SC.rf μ) (SM.st0 ν) _
  · rw [h1, h2]
    simp only [bnd_s, br0, br1, T_bad, M_bad]
    exact ok_bad h (SC.rf μ) (SM.st0 ν) _
/-! pence -/
def ml (f : Nat → Nat) : Nat → Nat → Nat → Nat
  | _, 0, a => a
  | i, d + 1, a => ml f (i + 1) d (max a (f i))
theorem ml_max (f : Nat → Nat) : ∀ d i a, max 1 (ml f i d a) = ml f i d (max 1 a) := by
  intro d
  induction d with
  | zero => intro i a; rfl
  | succ d ih => intro i a; show max 1 (ml f (i + 1) d _) = ml f (i + 1) d _; rw [ih, Nat.max_assoc]
theorem ml_le (f : Nat → Nat) (B : Nat) (hf : ∀ i, f i ≤ B) : ∀ d i a, a ≤ B → ml f i d a ≤ B := by
  intro d
  induction d with
  | zero => intro i a h; exact h
  | succ d ih => intro i a h; exact ih _ _ (Nat.max_le.mpr ⟨h, hf i⟩)
theorem C_most {μ : Mem} {t : Nat → Nat} {st wl r db : Nat} (h : GS μ t st wl r db) {v s : Nat} (hv : v < 8) (hs : s ≤ 61) : F_G_mostPull μ (nI v) (nI s) = some (nI (ml (fun k => if st.testBit k then pull t k v s r wl else 0) 0 (t 0) 0)) := by
  have hn := h.n2
  have hf : ∀ i, (fun k => if st.testBit k then pull t k v s r wl else 0) i ≤ 76 := by
    intro i; show (if st.testBit i then pull t i v s r wl else 0) ≤ 76
    split
    · exact pull_le hs
    · omega
  have key : ∀ d, d < 1000 → ∀ i a, i + d = t 0 → a ≤ 76 → F_G_mostPull_5 μ (nI v) (nI s) (nI a) (nI i) = some (nI (ml (fun k => if st.testBit k then pull t k v s r wl else 0) i d a)) := by
    refine fun d hd => iter_run (fun d (g : Mem → Int32 → Int32 → Int32 → Int32 → Option Int32) => ∀ i a, i + d = t 0 → a ≤ 76 → g μ (nI v) (nI s) (nI a) (nI i) = some (nI (ml (fun k => if st.testBit k then pull t k v s r wl else 0) i d a))) ?_ ?_ NF d (NF_lt hd)
    · intro g i a hi ha
      unfold S_G_mostPull_5
      rw [h.pegs, if_pos ((nI_leI (by omega) (by omega)).mpr (by omega))]
      rfl
    · intro d g ih i a hi ha
      unfold S_G_mostPull_5
      rw [h.pegs, if_neg (fun q => by have := (nI_leI (by omega) (by omega)).mp q; omega), C_pullOn h (by omega) hv hs, bnd_s, lit 1, nI_add]
      have hb := hf i
      show g μ (nI v) (nI s) (if nI a < nI (if st.testBit i then pull t i v s r wl else 0) then nI (if st.testBit i then pull t i v s r wl else 0) else nI a) (nI (i + 1)) = some (nI (ml _ (i + 1) d (max a (if st.testBit i then pull t i v s r wl else 0))))
      have hb' : (if st.testBit i then pull t i v s r wl else 0) ≤ 76 := hb
      rw [← ih (i + 1) _ (by omega) (Nat.max_le.mpr ⟨ha, hb'⟩)]
      generalize (if st.testBit i then pull t i v s r wl else 0) = q at hb' ⊢
      by_cases c : a < q
      · rw [if_pos ((nI_ltI (by omega) (by omega)).mpr c), Nat.max_eq_right (by omega)]
      · rw [if_neg (fun p => c ((nI_ltI (by omega) (by omega)).mp p)), Nat.max_eq_left (by omega)]
  unfold F_G_mostPull
  rw [lit 0]
  exact key (t 0) (by omega) 0 0 (by omega) (by omega)
theorem M_most {ν : Mem} {t : Nat → Nat} (h : MS ν t) {v s : Nat} (hv : v < 8) (hs : s ≤ 61) (z : Int32) : ∀ d, d < 1000 → ∀ i a, i + d = t 0 → a ≤ 76 → F_M_pence_36 ν (nI v) (nI s) z (nI a) (nI i) = some (nI (ml (fun k => if (t 1).testBit k then pull t k v s 0 (t 3) else 0) i d a) * z * nI (pc (t 1)), ν) := by
  have hn := h.n2
  have hf : ∀ i, (fun k => if (t 1).testBit k then pull t k v s 0 (t 3) else 0) i ≤ 76 := by
    intro i; show (if (t 1).testBit i then pull t i v s 0 (t 3) else 0) ≤ 76
    split
    · exact pull_le hs
    · omega
  refine fun d hd => iter_run (fun d (g : Mem → Int32 → Int32 → Int32 → Int32 → Int32 → Option (Int32 × Mem)) => ∀ i a, i + d = t 0 → a ≤ 76 → g ν (nI v) (nI s) z (nI a) (nI i) = some (nI (ml (fun k => if (t 1).testBit k then pull t k v s 0 (t 3) else 0) i d a) * z * nI (pc (t 1)), ν)) ?_ ?_ NF d (NF_lt hd)
  · intro g i a hi ha
    unfold S_M_pence_36
    rw [gd_t (by decide), show (0 : Int32).toNatClampNeg = 0 from rfl, h.n, if_pos ((nI_leI (by omega) (by omega)).mpr (by omega)), gd_t (by decide), show (1 : Int32).toNatClampNeg = 1 from rfl, h.at 1 (by decide), pcM _ h.2.st256]
    rfl
  · intro d g ih i a hi ha
    unfold S_M_pence_36
    rw [gd_t (by decide), show (0 : Int32).toNatClampNeg = 0 from rfl, h.n, if_neg (fun q => by have := (nI_leI (by omega) (by omega)).mp q; omega), M_pullNow h (by omega) hv hs, bnd_s, lit 1, nI_add]
    have hb' : (if (t 1).testBit i then pull t i v s 0 (t 3) else 0) ≤ 76 := hf i
    show (if nI (if (t 1).testBit i then pull t i v s 0 (t 3) else 0) ≤ nI a then g ν (nI v) (nI s) z (nI a) (nI (i + 1)) else g ν (nI v) (nI s) z (nI (if (t 1).testBit i then pull t i v s 0 (t 3) else 0)) (nI (i + 1))) = some (nI (ml _ (i + 1) d (max a (if (t 1).testBit i then pull t i v s 0 (t 3) else 0))) * z * nI (pc (t 1)), ν)
    rw [← ih (i + 1) _ (by omega) (Nat.max_le.mpr ⟨ha, hb'⟩)]
    generalize (if (t 1).testBit i then pull t i v s 0 (t 3) else 0) = q at hb' ⊢
    by_cases c : q ≤ a
    · rw [if_pos ((nI_leI (by omega) (by omega)).mpr c), Nat.max_eq_left c]
    · rw [if_neg (fun p => c ((nI_leI (by omega) (by omega)).mp p)), Nat.max_eq_right (by omega)]
theorem ok_pence {μ ν : Mem} (h : Rel μ ν) (x y z : Int32) : okI Rel (F_T_pence μ x y z) (F_M_pence ν x y z) := by
  obtain ⟨t, f1, f2, f3⟩ := h.1
  have hm : MS (stI ν 0 0 0) t := start_ms ⟨f3, f1⟩
  have hn := hm.n2
  unfold F_T_pence F_M_pence F_T_pence_18 F_M_pence_25
  rcases dGust x y with ⟨v, s, hv, hs, e1, e2, h1, h2⟩ | ⟨h1, h2⟩
  · rcases dich z 1 20 (by decide) (by decide) with ⟨j, _, hj, e3, h3, h4⟩ | ⟨h3, h4⟩
    · obtain ⟨m, a1, a2, a3, a4⟩ := C_asItIs f2 f1
      have hf : ∀ i, (fun k => if (t 1).testBit k then pull t k v s 0 (t 3) else 0) i ≤ 76 := by
        intro i; show (if (t 1).testBit i then pull t i v s 0 (t 3) else 0) ≤ 76
        split
        · exact pull_le (by omega)
        · omega
      have hb := ml_le _ 76 hf (t 0) 0 0 (by omega)
      have hmx := ml_max (fun k => if (t 1).testBit k then pull t k v s 0 (t 3) else 0) (t 0) 0 0
      rw [h1, h2, e1, e2, a1]
      rw [show F_T_within z 1 20 = some (nI 1) from h3, show F_M_in z.toInt64 1 20 = some (nI 1) from h4]
      simp only [bnd_s, br0, br1]
      rw [C_most a2 hv (by omega), bnd_s, show m.1 1 3 = nI (t 1) from by rw [a3 1 (by decide)]; exact f2.1.2.2.2.1, pcT _ f1.st256, bnd_s, show F_M_pence_36 (stI ν 0 0 0) (nI v) (nI s) z 1 0 = _ from M_most hm hv (show s ≤ 61 by omega) z (t 0) (by omega) 0 1 (by omega) (by omega)]
      refine ok_same h (SC.of7 a3) (SM.st0 ν) ?_
      rw [show ml (fun k => if (t 1).testBit k then pull t k v s 0 (t 3) else 0) 0 (t 0) 1 = max 1 (ml (fun k => if (t 1).testBit k then pull t k v s 0 (t 3) else 0) 0 (t 0) 0) from hmx.symm]
      generalize ml (fun k => if (t 1).testBit k then pull t k v s 0 (t 3) else 0) 0 (t 0) 0 = q at hb ⊢
      by_cases c : 1 < q
      · rw [if_pos (show (1 : Int32) < nI q from (nI_ltI (by decide) (by omega)).mpr c), Nat.max_eq_right (by omega)]
      · rw [if_neg (show ¬ (1 : Int32) < nI q from fun p => c ((nI_ltI (by decide) (by omega)).mp p)), Nat.max_eq_left (by omega)]; rfl
    · rw [h1, h2, show F_T_within z 1 20 = some (nI 0) from h3, show F_M_in z.toInt64 1 20 = some (nI 0) from h4]
      simp only [bnd_s, br0, br1, T_bad, M_bad]
      exact ok_bad h (SC.rf μ) (SM.st0 ν) _
  · rw [h1, h2]
    simp only [bnd_s, br0, br1, T_bad, M_bad]
    exact ok_bad h (SC.rf μ) (SM.st0 ν) _
/-! status, count, part, digest -/
theorem ok_status {μ ν : Mem} (h : Rel μ ν) (x : Int32) : okI Rel (F_T_status μ x) (F_M_status ν x) := by
  obtain ⟨s0, s1, s2⟩ := h.2.1
  unfold F_T_status F_M_status
  rcases dich x 0 2 (by decide) (by decide) with ⟨j, _, hj, e, h1, h2⟩ | ⟨h1, h2⟩
  · rw [show F_M_in x.toInt64 0 2 = some (nI 1) from h2, e]
    simp only [bnd_s, br0, br1]
    rw [gd_nI (by omega) (by decide), nclamp (by omega)]
    rcases (show j = 0 ∨ j = 1 ∨ j = 2 by omega) with rfl | rfl | rfl
    · exact ok_same h (SC.rf μ) (SM.st0 ν) s0
    · exact ok_same h (SC.rf μ) (SM.st0 ν) s1
    · exact ok_same h (SC.rf μ) (SM.st0 ν) s2
  · have ne : ∀ c, c ≤ 2 → ¬ x = nI c := fun c hc => notin (by decide) (by decide) h1 ⟨by omega, hc⟩
    rw [show F_M_in x.toInt64 0 2 = some (nI 0) from h2]
    simp only [bnd_s, br0, br1, T_bad]
    rw [if_neg (show ¬ x = 0 from ne 0 (by decide)), if_neg (show ¬ x = 1 from ne 1 (by decide)), if_neg (show ¬ x = 2 from ne 2 (by decide)), show (0 : Int32) = nI 0 from rfl, M_refuse _ 0 (by decide)]
    exact ok_bad h (SC.rf μ) (SM.st0 ν) _
theorem counted {μ ν : Mem} (h : Rel μ ν) {j : Nat} (hj : j ≤ 5) : ∃ r, F_T_counted μ (nI j) = some r ∧ F_M_countOf (stI ν 0 0 0) (nI j) = some r := by
  obtain ⟨t, f1, f2, f3⟩ := h.1
  obtain ⟨sz, s1, s2, s3, s4⟩ := h.2.2.1
  have g1 : μ.1 1 3 = nI (t 1) := f2.1.2.2.2.1
  have g2 : (stI ν 0 0 0).1 2 (1 : Int32).toNatClampNeg = nI (t 1) := f3 1 (by decide)
  unfold F_T_counted F_M_countOf
  rw [g1, g2, pcT _ f1.st256, pcM _ f1.st256]
  rcases (show j = 0 ∨ j = 1 ∨ j = 2 ∨ j = 3 ∨ j = 4 ∨ j = 5 by omega) with rfl | rfl | rfl | rfl | rfl | rfl
  · exact ⟨nI (t 0), congrArg some f2.1.1, congrArg some (f3 0 (by decide))⟩
  · exact ⟨nI (pc (t 1)), rfl, rfl⟩
  · exact ⟨nI (t 2), congrArg some f2.1.2.1, congrArg some (f3 2 (by decide))⟩
  · exact ⟨nI (t 3), congrArg some f2.1.2.2.1, congrArg some (f3 3 (by decide))⟩
  · exact ⟨nI (t 4), congrArg some f2.1.2.2.2.2, congrArg some (f3 4 (by decide))⟩
  · exact ⟨nI sz, congrArg some s2, congrArg some s3⟩
theorem ok_count {μ ν : Mem} (h : Rel μ ν) (x : Int32) : okI Rel (F_T_count μ x) (F_M_count ν x) := by
  unfold F_T_count F_M_count
  rcases dich x 0 5 (by decide) (by decide) with ⟨j, _, hj, e, h1, h2⟩ | ⟨h1, h2⟩
  · obtain ⟨r, c1, c2⟩ := counted h hj
    rw [show F_T_within x 0 5 = some (nI 1) from h1, show F_M_in x.toInt64 0 5 = some (nI 1) from h2, e, c1, c2]
    simp only [bnd_s, br0, br1]
    exact ok_same h (SC.rf μ) (SM.st0 ν) rfl
  · rw [show F_T_within x 0 5 = some (nI 0) from h1, show F_M_in x.toInt64 0 5 = some (nI 0) from h2]
    simp only [bnd_s, br0, br1, T_bad, M_bad]
    exact ok_bad h (SC.rf μ) (SM.st0 ν) _
theorem ok_part {μ ν : Mem} (h : Rel μ ν) (x : Int32) : okL Rel (F_T_part μ x) (F_M_part ν x) := by
  obtain ⟨r1, r2⟩ := h.2.2.2.1
  unfold F_T_part F_M_part
  by_cases c0 : x = 0
  · rw [if_pos c0, if_pos c0]
    exact ⟨_, _, _, rfl, by rw [r1], h.same (SC.rf μ) (SM.st0 ν)⟩
  · by_cases c1 : x = 1
    · rw [if_neg c0, if_neg c0, if_pos c1, if_pos c1]
      exact ⟨_, _, _, rfl, by rw [r2], h.same (SC.rf μ) (SM.st0 ν)⟩
    · rw [if_neg c0, if_neg c0, if_neg c1, if_neg c1, T_bad, show (0 : Int32) = nI 0 from rfl, M_refuse _ 0 (by decide)]
      exact ⟨_, _, _, rfl, rfl, (h.same (SC.rf μ) (SM.st0 ν)).cnt 0 (by decide) rfl rfl⟩
