/-! Pure part (35): a step of the class; words by number. -/
def sk' (c : Nat → Nat) (L p : Nat) : Nat := run (fun x => x == 32) c (L - p) p
def kdq (c : Nat → Nat) (L q : Nat) : Nat := if q = L then 1 else if lt (c q) = true then wd c q (run lt c (L - q) q - q) else if dg (c q) = true then (if run dg c (L - q) q - q ≤ 2 then 2 else 0) else if c q = 59 then 3 else 0
def enq (c : Nat → Nat) (L q : Nat) : Nat := if q = L then q else if lt (c q) = true then run lt c (L - q) q else if dg (c q) = true then run dg c (L - q) q else q + 1
def vlq (c : Nat → Nat) (L q : Nat) : Nat := nvC c (L - q) q 0
theorem skq_le (c : Nat → Nat) {L p : Nat} (h : p ≤ L) : p ≤ sk' c L p ∧ sk' c L p ≤ L := by
  have := run_le (fun x => x == 32) c (L - p) p
  unfold sk'; omega
theorem wd_2 (c : Nat → Nat) (s n : Nat) : wd c s n ≠ 2 := by
  unfold wd
  repeat' split
  all_goals decide
theorem C_step {μ : Mem} {c : Nat → Nat} {L p : Nat} (h : CT μ c L) (hp : μ.1 14 4 = nI p) (hpL : p ≤ L) : ∃ μ1, F_R_step μ = some μ1 ∧ FC μ μ1 ∧ μ1.1 14 5 = nI (sk' c L p) ∧ μ1.1 14 4 = nI (enq c L (sk' c L p)) ∧ μ1.1 14 6 = nI (kdq c L (sk' c L p)) ∧ (kdq c L (sk' c L p) = 2 → μ1.1 14 7 = nI (vlq c L (sk' c L p))) := by
  have hL := h.1
  obtain ⟨m1, e1, e2, e3⟩ := C_skip (L - p) (by omega) μ p h hp (by omega)
  have hq := skq_le c hpL
  have h1 : CT m1 c L := e2.ct h
  unfold F_R_step F_R_skipBlanks
  rw [e1, bnd_s]
  have e3' : m1.1 14 4 = nI (sk' c L p) := e3
  revert hq e3'
  generalize sk' c L p = q
  intro hq e3'
  rw [e3', h1.2.1]
  have hF : FC m1 (stI m1 14 5 (nI q)) := FC.st (by omega)
  have h2 := hF.ct h1
  have a4 : (stI m1 14 5 (nI q)).1 14 4 = nI q := by rw [stI_same, upd_ne _ _ (by decide)]; exact e3'
  have a5 : (stI m1 14 5 (nI q)).1 14 5 = nI q := by rw [stI_same, upd_same]
  by_cases c0 : q = L
  · have k1 : kdq c L q = 1 := if_pos c0
    have k2 : enq c L q = q := if_pos c0
    rw [if_neg (fun p => by have := (nI_ltI (by omega) (by omega)).mp p; omega), k1, k2]
    refine ⟨_, rfl, e2.tr (hF.tr (FC.st (by omega))), by rw [stI_same, upd_ne _ _ (by decide)]; exact a5, by rw [stI_same, upd_ne _ _ (by decide)]; exact a4, by rw [stI_same, upd_same]; rfl, fun z => absurd z (by decide)⟩
  · obtain ⟨hc, hb⟩ := h1.2.2 q (by omega)
    rw [if_pos ((nI_ltI (by omega) (by omega)).mpr (by omega)), gd_nI (by omega) (by decide), gd_nI (by omega) (by decide), gd_nI (by omega) (by decide), nclamp (by omega), hb, C_lt hc, bnd_s, C_dg hc, bnd_s]
    cases l1 : lt (c q) with
    | true =>
      have k2 : enq c L q = run lt c (L - q) q := by unfold enq; rw [if_neg c0, if_pos l1]
      have k1 : kdq c L q = wd c q (run lt c (L - q) q - q) := by unfold kdq; rw [if_neg c0, if_pos l1]
      rw [if_neg (by decide), k1, k2]
      unfold F_R_stepOverWord
      obtain ⟨m2, g1, g2, g3, g4⟩ := C_word (L - q) (by omega) _ q h2 a4 (by omega)
      have hr := run_le lt c (L - q) q
      rw [g1, C_39 (s := q) (n := run lt c (L - q) q - q) (g2.ct h2) (by rw [g3]; congr 1; omega) (by rw [g4]; exact a5) (by omega), bnd_s]
      have hw : wd c q (run lt c (L - q) q - q) ≠ 2 := wd_2 c q _
      exact ⟨_, rfl, e2.tr (hF.tr (g2.tr (FC.st (by omega)))), by rw [stI_same, upd_ne _ _ (by decide), g4]; exact a5, by rw [stI_same, upd_ne _ _ (by decide)]; exact g3, by rw [stI_same, upd_same], fun z => absurd z hw⟩
    | false =>
      have ln : ¬ lt (c q) = true := by rw [l1]; decide
      rw [if_pos (by decide)]
      cases l2 : dg (c q) with
      | true =>
        have k2 : enq c L q = run dg c (L - q) q := by unfold enq; rw [if_neg c0, if_neg ln, if_pos l2]
        have k1 : kdq c L q = (if run dg c (L - q) q - q ≤ 2 then 2 else 0) := by unfold kdq; rw [if_neg c0, if_neg ln, if_pos l2]
        rw [if_neg (by decide), k1, k2]
        unfold F_R_stepOverNumber
        have hF2 : FC (stI m1 14 5 (nI q)) (stI (stI m1 14 5 (nI q)) 14 7 0) := FC.st (by omega)
        obtain ⟨m2, g1, g2, g3, g4, g5⟩ := C_num (L - q) (by omega) (stI (stI m1 14 5 (nI q)) 14 7 0) q 0 (hF2.ct h2) (by rw [stI_same, upd_ne _ _ (by decide)]; exact a4) (by rw [stI_same, upd_same]; rfl) (by decide) (by omega)
        have hr := run_le dg c (L - q) q
        have g4' : m2.1 14 5 = nI q := by rw [g4, stI_same, upd_ne _ _ (by decide)]; exact a5
        rw [g1]
        unfold F_R_stepOverNumber_71
        rw [g3, g4', nsub (by omega), lit 2]
        by_cases c2 : run dg c (L - q) q - q ≤ 2
        · rw [if_neg (fun p => by have := (nI_ltI (by omega) (by omega)).mp p; omega), if_pos c2, bnd_s]
          exact ⟨_, rfl, e2.tr (hF.tr (hF2.tr (g2.tr (FC.st (by omega))))), by rw [stI_same, upd_ne _ _ (by decide)]; exact g4', by rw [stI_same, upd_ne _ _ (by decide)]; exact g3, by rw [stI_same, upd_same], fun _ => by rw [stI_same, upd_ne _ _ (by decide)]; exact g5⟩
        · rw [if_pos ((nI_ltI (by omega) (by omega)).mpr (by omega)), if_neg c2, bnd_s]
          exact ⟨_, rfl, e2.tr (hF.tr (hF2.tr (g2.tr (FC.st (by omega))))), by rw [stI_same, upd_ne _ _ (by decide)]; exact g4', by rw [stI_same, upd_ne _ _ (by decide)]; exact g3, by rw [stI_same, upd_same]; rfl, fun z => absurd z (by decide)⟩
      | false =>
        have dn : ¬ dg (c q) = true := by rw [l2]; decide
        have k2 : enq c L q = q + 1 := by unfold enq; rw [if_neg c0, if_neg ln, if_neg dn]
        have k1 : kdq c L q = (if c q = 59 then 3 else 0) := by unfold kdq; rw [if_neg c0, if_neg ln, if_neg dn]
        rw [if_pos (by decide), k1, k2]
        unfold F_R_step_95
        rw [a4, nI_1]
        by_cases c3 : c q = 59
        · rw [if_pos (show nI (c q) = 59 by rw [c3]; rfl), if_pos c3]
          exact ⟨_, rfl, e2.tr (hF.tr ((FC.st (by omega)).tr (FC.st (by omega)))), by rw [stI_same, upd_ne _ _ (by decide), stI_same, upd_ne _ _ (by decide)]; exact a5, by rw [stI_same, upd_same], by rw [stI_same, upd_ne _ _ (by decide), stI_same, upd_same]; rfl, fun z => absurd z (by decide)⟩
        · rw [if_neg (show ¬ nI (c q) = 59 from fun z => c3 ((nI_eq (b := 59) (by omega) (by decide)).mp z)), if_neg c3]
          exact ⟨_, rfl, e2.tr (hF.tr ((FC.st (by omega)).tr (FC.st (by omega)))), by rw [stI_same, upd_ne _ _ (by decide), stI_same, upd_ne _ _ (by decide)]; exact a5, by rw [stI_same, upd_same], by rw [stI_same, upd_ne _ _ (by decide), stI_same, upd_same]; rfl, fun z => absurd z (by decide)⟩
