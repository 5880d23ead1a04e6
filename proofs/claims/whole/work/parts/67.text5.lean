/-! Pure part (38): the check's next token. -/
def TokM (ν : Mem) (k v : Nat) : Prop := (k = 1 ∧ ν.1 0 10 = 1) ∨ (k = 2 ∧ ν.1 0 10 = 3 ∧ ν.2 11 = lN v) ∨ (k = 3 ∧ ν.1 0 10 = 4) ∨ (4 ≤ k ∧ k ≤ 9 ∧ ν.1 0 10 = 2 ∧ ν.2 11 = lN (wcode k)) ∨ (k = 0 ∧ (ν.1 0 10 = 0 ∨ (ν.1 0 10 = 2 ∧ ∀ j, 4 ≤ j → j ≤ 9 → ν.2 11 ≠ lN (wcode j))))
theorem TokM.wk {ν : Mem} {k v : Nat} (h : WK k (ν.2 11)) (h2 : ν.1 0 10 = 2) : TokM ν k v := by
  rcases h with ⟨a, b, e⟩ | ⟨a, e⟩
  · exact Or.inr (Or.inr (Or.inr (Or.inl ⟨a, b, h2, e⟩)))
  · exact Or.inr (Or.inr (Or.inr (Or.inr ⟨a, Or.inr ⟨h2, e⟩⟩)))
theorem M_skip {c : Nat → Nat} {L : Nat} : ∀ d, d < 1000 → ∀ (ν : Mem) (p : Nat), MT ν c L → ν.1 0 8 = nI p → p + d = L → ∃ ν1, F_M_next_0 ν = F_M_next_38 ν1 ∧ FM ν ν1 ∧ ν1.1 0 8 = nI (run (fun x => x == 32) c d p) := by
  refine fun d hd => iter_run (fun d (g : Mem → Option Mem) => ∀ (ν : Mem) (p : Nat), MT ν c L → ν.1 0 8 = nI p → p + d = L → ∃ ν1, g ν = F_M_next_38 ν1 ∧ FM ν ν1 ∧ ν1.1 0 8 = nI (run (fun x => x == 32) c d p)) ?_ ?_ NF d (NF_lt hd)
  · intro g ν p h hp e
    have hL := h.1
    unfold S_M_next_0
    rw [h.2.1, hp, if_pos ((nI_leI (by omega) (by omega)).mpr (by omega))]
    exact ⟨ν, rfl, FM.rf ν, hp⟩
  · intro d g ih ν p h hp e
    have hL := h.1
    obtain ⟨hc, hb⟩ := h.2.2 p (by omega)
    unfold S_M_next_0
    rw [h.2.1, hp, if_neg (fun q => by have := (nI_leI (by omega) (by omega)).mp q; omega), gd_nI (by omega) (by decide), nclamp (by omega), hb, nI_1]
    have er : run (fun x => x == 32) c (d + 1) p = if (c p == 32) = true then run (fun x => x == 32) c d (p + 1) else p := rfl
    rw [er]
    by_cases c1 : c p = 32
    · rw [if_pos (show nI (c p) = 32 by rw [c1]; rfl), if_pos (show (c p == 32) = true by rw [c1]; rfl)]
      obtain ⟨ν1, e1, e2, e3⟩ := ih (stI ν 0 8 (nI (p + 1))) (p + 1) ((FM.st (by omega)).mt h) (by rw [stI_same, upd_same]) (by omega)
      exact ⟨ν1, e1, (FM.st (by omega)).tr e2, e3⟩
    · rw [if_neg (show ¬ nI (c p) = 32 from fun q => c1 ((nI_eq (b := 32) (by omega) (by decide)).mp q)), if_neg (show ¬ (c p == 32) = true from fun q => c1 (eq_of_beq q))]
      exact ⟨ν, rfl, FM.rf ν, hp⟩
theorem M_38 {ν : Mem} {c : Nat → Nat} {L q : Nat} (h : MT ν c L) (hp : ν.1 0 8 = nI q) (hq : q ≤ L) : ∃ ν1, F_M_next_38 ν = some ν1 ∧ FM ν ν1 ∧ ν1.1 0 9 = nI q ∧ ν1.1 0 8 = nI (enq c L q) ∧ TokM ν1 (kdq c L q) (vlq c L q) := by
  have hL := h.1
  unfold F_M_next_38
  rw [h.2.1, hp]
  have hF : FM ν (stL (stI ν 0 9 (nI q)) 11 0) := (FM.st (by omega)).tr FM.l
  have h2 := hF.mt h
  have a8 : (stL (stI ν 0 9 (nI q)) 11 0).1 0 8 = nI q := by
    show (stI ν 0 9 (nI q)).1 0 8 = nI q
    rw [stI_same, upd_ne _ _ (by decide)]; exact hp
  have a9 : (stL (stI ν 0 9 (nI q)) 11 0).1 0 9 = nI q := by
    show (stI ν 0 9 (nI q)).1 0 9 = nI q
    rw [stI_same, upd_same]
  have a11 : (stL (stI ν 0 9 (nI q)) 11 0).2 11 = lN 0 := rfl
  revert hF h2 a8 a9 a11
  generalize stL (stI ν 0 9 (nI q)) 11 0 = n1
  intro hF h2 a8 a9 a11
  by_cases c0 : q = L
  · have k1 : kdq c L q = 1 := if_pos c0
    have k2 : enq c L q = q := if_pos c0
    rw [if_pos (show nI q = nI L by rw [c0]), k1, k2]
    exact ⟨_, rfl, hF.tr (FM.st (by omega)), by rw [stI_same, upd_ne _ _ (by decide)]; exact a9, by rw [stI_same, upd_ne _ _ (by decide)]; exact a8, Or.inl ⟨rfl, by rw [stI_same, upd_same]⟩⟩
  · obtain ⟨hc, hb⟩ := h.2.2 q (by omega)
    rw [if_neg (fun z => c0 ((nI_eq (by omega) (by omega)).mp z)), gd_nI (by omega) (by decide), gd_nI (by omega) (by decide), nclamp (by omega), hb, M_lt hc, bnd_s]
    cases l1 : lt (c q) with
    | true =>
      have k2 : enq c L q = run lt c (L - q) q := by unfold enq; rw [if_neg c0, if_pos l1]
      have k1 : kdq c L q = wd c q (run lt c (L - q) q - q) := by unfold kdq; rw [if_neg c0, if_pos l1]
      rw [if_neg (by decide), k1, k2]
      have hF2 : FM n1 (stI n1 0 10 2) := FM.st (by omega)
      obtain ⟨ν2, g1, g2, g3, g4, g5, g6⟩ := M_99 (L - q) (by omega) (stI n1 0 10 2) q 0 (lN 0) (hF2.mt h2) (by rw [stI_same, upd_ne _ _ (by decide)]; exact a8) a11 (by omega) (by omega)
      rw [show F_M_next_99 (stI n1 0 10 2) 0 = _ from g1]
      refine ⟨ν2, rfl, hF.tr (hF2.tr g2), by rw [g4, stI_same, upd_ne _ _ (by decide)]; exact a9, g3, TokM.wk ?_ (by rw [g5, stI_same, upd_same])⟩
      have hr := run_le lt c (L - q) q
      rw [g6, wvM_N]
      refine word_k (fun j hj => of_decide_eq_true (run_all lt c (L - q) q (q + j) (by omega) (by omega))) ?_
      have e1 : L - q = (L - q - 1) + 1 := by omega
      have e2 : run lt c (L - q) q = if lt (c q) = true then run lt c (L - q - 1) (q + 1) else q := by rw [e1]; rfl
      rw [if_pos l1] at e2
      have := run_le lt c (L - q - 1) (q + 1)
      omega
    | false =>
      have ln : ¬ lt (c q) = true := by rw [l1]; decide
      rw [if_pos (by decide), M_fig h2 a8 (by omega), decide_eq_true (show q < L by omega), Bool.true_and, bnd_s]
      cases l2 : dg (c q) with
      | true =>
        have k2 : enq c L q = run dg c (L - q) q := by unfold enq; rw [if_neg c0, if_neg ln, if_pos l2]
        have k1 : kdq c L q = (if run dg c (L - q) q - q ≤ 2 then 2 else 0) := by unfold kdq; rw [if_neg c0, if_neg ln, if_pos l2]
        rw [if_neg (by decide), k1, k2]
        have hF2 : FM n1 (stI n1 0 10 3) := FM.st (by omega)
        obtain ⟨ν2, g1, g2, g3, g4, g5, g6⟩ := M_198 (L - q) (by omega) (stI n1 0 10 3) q 0 0 (hF2.mt h2) (by rw [stI_same, upd_ne _ _ (by decide)]; exact a8) a11 (by omega) (by omega)
        rw [show F_M_next_198 (stI n1 0 10 3) 0 = _ from g1]
        refine ⟨ν2, rfl, hF.tr (hF2.tr g2), by rw [g4, stI_same, upd_ne _ _ (by decide)]; exact a9, g3, ?_⟩
        by_cases c2 : run dg c (L - q) q - q ≤ 2
        · rw [if_pos (by omega)] at g5
          rw [if_pos c2]
          refine Or.inr (Or.inl ⟨rfl, g5, ?_⟩)
          rw [g6, nv_alike c _ _ c2]; rfl
        · rw [if_neg (by omega)] at g5
          rw [if_neg c2]
          exact Or.inr (Or.inr (Or.inr (Or.inr ⟨rfl, Or.inl g5⟩)))
      | false =>
        have dn : ¬ dg (c q) = true := by rw [l2]; decide
        have k2 : enq c L q = q + 1 := by unfold enq; rw [if_neg c0, if_neg ln, if_neg dn]
        have k1 : kdq c L q = (if c q = 59 then 3 else 0) := by unfold kdq; rw [if_neg c0, if_neg ln, if_neg dn]
        rw [if_pos (by decide), k1, k2]
        unfold F_M_next_297
        rw [a8, nI_1]
        by_cases c3 : c q = 59
        · rw [if_pos (show nI (c q) = 59 by rw [c3]; rfl), if_pos c3]
          exact ⟨_, rfl, hF.tr ((FM.st (by omega)).tr (FM.st (by omega))), by rw [stI_same, upd_ne _ _ (by decide), stI_same, upd_ne _ _ (by decide)]; exact a9, by rw [stI_same, upd_same], Or.inr (Or.inr (Or.inl ⟨rfl, by rw [stI_same, upd_ne _ _ (by decide), stI_same, upd_same]⟩))⟩
        · rw [if_neg (show ¬ nI (c q) = 59 from fun z => c3 ((nI_eq (b := 59) (by omega) (by decide)).mp z)), if_neg c3]
          exact ⟨_, rfl, hF.tr ((FM.st (by omega)).tr (FM.st (by omega))), by rw [stI_same, upd_ne _ _ (by decide), stI_same, upd_ne _ _ (by decide)]; exact a9, by rw [stI_same, upd_same], Or.inr (Or.inr (Or.inr (Or.inr ⟨rfl, Or.inl (by rw [stI_same, upd_ne _ _ (by decide), stI_same, upd_same])⟩)))⟩
theorem M_tok {ν : Mem} {c : Nat → Nat} {L p : Nat} (h : MT ν c L) (hp : ν.1 0 8 = nI p) (hpL : p ≤ L) : ∃ ν1, F_M_next ν = some ν1 ∧ FM ν ν1 ∧ ν1.1 0 9 = nI (sk' c L p) ∧ ν1.1 0 8 = nI (enq c L (sk' c L p)) ∧ TokM ν1 (kdq c L (sk' c L p)) (vlq c L (sk' c L p)) := by
  have hL := h.1
  obtain ⟨n1, e1, e2, e3⟩ := M_skip (L - p) (by omega) ν p h hp (by omega)
  have hq := skq_le c hpL
  obtain ⟨n2, g1, g2, g3, g4, g5⟩ := M_38 (e2.mt h) (show n1.1 0 8 = nI (sk' c L p) from e3) hq.2
  unfold F_M_next
  rw [e1]
  exact ⟨n2, g1, e2.tr g2, g3, g4, g5⟩
