/-! Pure part (40): an item's numbers. -/
/-- from where the last token was stepped; whether the item is one -/
def fl (c : Nat → Nat) (L : Nat) : Nat → Nat → Nat × Bool
  | 0, p => (p, decide (kdq c L (sk' c L p) = 3))
  | d + 1, p => if kdq c L (sk' c L p) = 2 then fl c L d (enq c L (sk' c L p)) else (p, false)
def nu (c : Nat → Nat) (L : Nat) : Nat → Nat → Nat
  | p, 0 => vlq c L (sk' c L p)
  | p, j + 1 => nu c L (enq c L (sk' c L p)) j
theorem nu_lt (c : Nat → Nat) (L : Nat) : ∀ j p, nu c L p j < 100 := by
  intro j
  induction j with
  | zero => intro p; exact nvC_lt c _ _ _ (by decide)
  | succ j ih => intro p; exact ih _
theorem fl_le {c : Nat → Nat} {L : Nat} : ∀ d p, p ≤ L → p ≤ (fl c L d p).1 ∧ (fl c L d p).1 ≤ L ∧ ((fl c L d p).2 = true → p + d ≤ (fl c L d p).1 ∧ kdq c L (sk' c L (fl c L d p).1) = 3) := by
  intro d
  induction d with
  | zero => intro p h; exact ⟨Nat.le_refl _, h, fun q => ⟨Nat.le_refl _, of_decide_eq_true q⟩⟩
  | succ d ih =>
    intro p h
    have e : fl c L (d + 1) p = if kdq c L (sk' c L p) = 2 then fl c L d (enq c L (sk' c L p)) else (p, false) := rfl
    rw [e]
    have hq := skq_le c h
    have he := en_le (c := c) hq.2
    by_cases c1 : kdq c L (sk' c L p) = 2
    · rw [if_pos c1]
      have h3 := he.2.2.1 (by omega)
      obtain ⟨a1, a2, a3⟩ := ih (enq c L (sk' c L p)) he.2.1
      exact ⟨by omega, a2, fun q => ⟨by have := (a3 q).1; omega, (a3 q).2⟩⟩
    · rw [if_neg c1]
      exact ⟨Nat.le_refl _, h, fun q => by cases q⟩
theorem C_nums {c : Nat → Nat} {L w : Nat} (hw : w ≤ 9) : ∀ d, d < 1000 → ∀ (μ : Mem) (p i : Nat), CT μ c L → μ.1 14 4 = nI p → p ≤ L → i + d = cnt w → ∃ μ1, F_R_isItem_39 μ (nI w) (nI i) = some (nI (fl c L d p).2.toNat, μ1) ∧ GC μ μ1 ∧ μ1.1 14 5 = nI (sk' c L (fl c L d p).1) ∧ μ1.1 14 4 = nI (enq c L (sk' c L (fl c L d p).1)) ∧ (∀ j, j < i → μ1.1 15 j = μ.1 15 j) ∧ ((fl c L d p).2 = true → ∀ j, j < d → μ1.1 15 (i + j) = nI (nu c L p j)) := by
  have h14 := cnt_le w
  refine fun d hd => iter_run (fun d (g : Mem → Int32 → Int32 → Option (Int32 × Mem)) => ∀ (μ : Mem) (p i : Nat), CT μ c L → μ.1 14 4 = nI p → p ≤ L → i + d = cnt w → ∃ μ1, g μ (nI w) (nI i) = some (nI (fl c L d p).2.toNat, μ1) ∧ GC μ μ1 ∧ μ1.1 14 5 = nI (sk' c L (fl c L d p).1) ∧ μ1.1 14 4 = nI (enq c L (sk' c L (fl c L d p).1)) ∧ (∀ j, j < i → μ1.1 15 j = μ.1 15 j) ∧ ((fl c L d p).2 = true → ∀ j, j < d → μ1.1 15 (i + j) = nI (nu c L p j))) ?_ ?_ NF d (NF_lt hd)
  · intro g μ p i h hp hL hi
    obtain ⟨m1, e1, e2, e3, e4, e5, _⟩ := C_step h hp hL
    unfold S_R_isItem_39
    rw [C_cnt hw, bnd_s, if_pos ((nI_leI (by omega) (by omega)).mpr (by omega)), e1, bnd_s, e5]
    have e0 : fl c L 0 p = (p, decide (kdq c L (sk' c L p) = 3)) := rfl
    have hk : kdq c L (sk' c L p) < 2 ^ 31 := by
      unfold kdq
      have := wd_9 c (sk' c L p) (run lt c (L - sk' c L p) (sk' c L p) - sk' c L p)
      repeat' split
      all_goals omega
    rw [e0]
    refine ⟨m1, ?_, GC.of e2, e3, e4, fun j _ => by rw [e2.1 15 (by decide)], fun _ j hj => absurd hj (by omega)⟩
    by_cases c3 : kdq c L (sk' c L p) = 3
    · rw [if_pos (show nI (kdq c L (sk' c L p)) = 3 by rw [c3]; rfl), decide_eq_true c3]; rfl
    · rw [if_neg (show ¬ nI (kdq c L (sk' c L p)) = 3 from fun z => c3 ((nI_eq (b := 3) hk (by decide)).mp z)), decide_eq_false c3]; rfl
  · intro d g ih μ p i h hp hL hi
    obtain ⟨m1, e1, e2, e3, e4, e5, e6⟩ := C_step h hp hL
    have e0 : fl c L (d + 1) p = if kdq c L (sk' c L p) = 2 then fl c L d (enq c L (sk' c L p)) else (p, false) := rfl
    have hk : kdq c L (sk' c L p) < 2 ^ 31 := by
      unfold kdq
      have := wd_9 c (sk' c L p) (run lt c (L - sk' c L p) (sk' c L p) - sk' c L p)
      repeat' split
      all_goals omega
    unfold S_R_isItem_39
    rw [C_cnt hw, bnd_s, if_neg (fun z => by have := (nI_leI (by omega) (by omega)).mp z; omega), e1, bnd_s, e5, e0]
    by_cases c2 : kdq c L (sk' c L p) = 2
    · rw [if_pos (show nI (kdq c L (sk' c L p)) = 2 by rw [c2]; rfl), if_pos c2, gd_nI (by omega) (by decide), nclamp (by omega), e6 c2, nI_1]
      have hq := skq_le c hL
      have he := en_le (c := c) hq.2
      have hG : GC m1 (stI m1 15 i (nI (vlq c L (sk' c L p)))) := GC.st
      obtain ⟨m2, g1, g2, g3, g4, g5, g6⟩ := ih (stI m1 15 i (nI (vlq c L (sk' c L p)))) (enq c L (sk' c L p)) (i + 1) (hG.ct (e2.ct h)) (by rw [stI_ne _ _ _ (by decide)]; exact e4) he.2.1 (by omega)
      refine ⟨m2, g1, (GC.of e2).tr (hG.tr g2), g3, g4, fun j hj => ?_, fun z j hj => ?_⟩
      · rw [g5 j (by omega), stI_same, upd_ne _ _ (by omega), e2.1 15 (by decide)]
      · cases j with
        | zero => rw [show i + 0 = i from rfl, g5 i (by omega), stI_same, upd_same]; rfl
        | succ j => rw [show i + (j + 1) = i + 1 + j by omega, g6 z j (by omega)]; rfl
    · rw [if_neg (show ¬ nI (kdq c L (sk' c L p)) = 2 from fun z => c2 ((nI_eq (b := 2) hk (by decide)).mp z)), if_neg c2]
      exact ⟨m1, rfl, GC.of e2, e3, e4, fun j _ => by rw [e2.1 15 (by decide)], fun z => by cases z⟩
theorem M_nums {c : Nat → Nat} {L k N : Nat} (hk : 5 * k + 4 < 200) (hN : N ≤ 4) : ∀ d, d < 1000 → ∀ (ν : Mem) (p i : Nat), MT ν c L → CS ν c L p → p ≤ L → i + d = N → ν.1 0 13 = nI k → ∃ ν1, F_M_readItem_173 ν (nI N) (nI i) = some (nI (fl c L d p).2.toNat, ν1) ∧ GM ν ν1 ∧ ((fl c L d p).2 = false → CS ν1 c L (fl c L d p).1) ∧ ((fl c L d p).2 = true → CS ν1 c L (enq c L (sk' c L (fl c L d p).1)) ∧ ν1.1 0 13 = nI (k + 1)) ∧ (∀ l, l < 5 * k + 1 + i → ν1.1 7 l = ν.1 7 l) ∧ ((fl c L d p).2 = true → ∀ j, j < d → ν1.1 7 (5 * k + 1 + i + j) = nI (nu c L p j)) := by
  refine fun d hd => iter_run (fun d (g : Mem → Int32 → Int32 → Option (Int32 × Mem)) => ∀ (ν : Mem) (p i : Nat), MT ν c L → CS ν c L p → p ≤ L → i + d = N → ν.1 0 13 = nI k → ∃ ν1, g ν (nI N) (nI i) = some (nI (fl c L d p).2.toNat, ν1) ∧ GM ν ν1 ∧ ((fl c L d p).2 = false → CS ν1 c L (fl c L d p).1) ∧ ((fl c L d p).2 = true → CS ν1 c L (enq c L (sk' c L (fl c L d p).1)) ∧ ν1.1 0 13 = nI (k + 1)) ∧ (∀ l, l < 5 * k + 1 + i → ν1.1 7 l = ν.1 7 l) ∧ ((fl c L d p).2 = true → ∀ j, j < d → ν1.1 7 (5 * k + 1 + i + j) = nI (nu c L p j))) ?_ ?_ NF d (NF_lt hd)
  · intro g ν p i h hC hL hi hk13
    have e0 : fl c L 0 p = (p, decide (kdq c L (sk' c L p) = 3)) := rfl
    have hq := skq_le c hL
    have he := en_le (c := c) hq.2
    unfold S_M_readItem_173
    rw [if_pos ((nI_leI (by omega) (by omega)).mpr (by omega)), e0, hk13, nI_1]
    by_cases c3 : kdq c L (sk' c L p) = 3
    · have hG : GM ν (stI ν 0 13 (nI (k + 1))) := GM.s0 (by omega)
      obtain ⟨n1, g1, g2, g3, g4, g5⟩ := M_tok (hG.mt h) (show (stI ν 0 13 (nI (k + 1))).1 0 8 = nI (enq c L (sk' c L p)) by rw [stI_same, upd_ne _ _ (by decide)]; exact hC.2.1) he.2.1
      rw [if_pos (hC.2.2.semi.mpr c3), g1, bnd_s, decide_eq_true c3]
      exact ⟨n1, rfl, hG.tr (GM.of g2), (fun z => by cases z), fun _ => ⟨⟨g3, g4, g5⟩, by rw [g2.2.1 13 (by omega), stI_same, upd_same]⟩, fun l _ => by rw [g2.1 7 (by decide), stI_ne _ _ _ (by decide)], fun _ j hj => absurd hj (by omega)⟩
    · rw [if_neg (fun z => c3 (hC.2.2.semi.mp z)), decide_eq_false c3]
      exact ⟨ν, rfl, ⟨fun _ _ _ => rfl, fun _ _ => rfl, fun _ _ => rfl⟩, fun _ => hC, (fun z => by cases z), fun _ _ => rfl, fun z => by cases z⟩
  · intro d g ih ν p i h hC hL hi hk13
    have e0 : fl c L (d + 1) p = if kdq c L (sk' c L p) = 2 then fl c L d (enq c L (sk' c L p)) else (p, false) := rfl
    have hq := skq_le c hL
    have he := en_le (c := c) hq.2
    unfold S_M_readItem_173
    rw [if_neg (fun z => by have := (nI_leI (by omega) (by omega)).mp z; omega), e0, hk13, lit 5, nmul, nI_1, nI_add, gd_nI (by omega) (by decide), nclamp (by omega), nI_1]
    by_cases c2 : kdq c L (sk' c L p) = 2
    · have hv : (ν.2 11).toInt32 = nI (vlq c L (sk' c L p)) := by rw [hC.2.2.num.2 c2, lN_i]
      have hG : GM ν (stI ν 7 (5 * k + 1 + i) (nI (vlq c L (sk' c L p)))) := GM.st
      obtain ⟨n1, a1, a2, a3, a4, a5⟩ := M_tok (hG.mt h) (show (stI ν 7 (5 * k + 1 + i) (nI (vlq c L (sk' c L p)))).1 0 8 = nI (enq c L (sk' c L p)) by rw [stI_ne _ _ _ (by decide)]; exact hC.2.1) he.2.1
      rw [if_pos (hC.2.2.num.1.mpr c2), if_pos c2, hv, a1, bnd_s]
      obtain ⟨n2, g1, g2, g3, g4, g5, g6⟩ := ih n1 (enq c L (sk' c L p)) (i + 1) (a2.mt (hG.mt h)) ⟨a3, a4, a5⟩ he.2.1 (by omega) (by rw [a2.2.1 13 (by omega), stI_ne _ _ _ (by decide)]; exact hk13)
      refine ⟨n2, g1, hG.tr ((GM.of a2).tr g2), g3, g4, fun l hl => ?_, fun z j hj => ?_⟩
      · rw [g5 l (by omega), a2.1 7 (by decide), stI_same, upd_ne _ _ (by omega)]
      · cases j with
        | zero => rw [show 5 * k + 1 + i + 0 = 5 * k + 1 + i from rfl, g5 _ (by omega), a2.1 7 (by decide), stI_same, upd_same]; rfl
        | succ j => rw [show 5 * k + 1 + i + (j + 1) = 5 * k + 1 + (i + 1) + j by omega, g6 z j (by omega)]; rfl
    · rw [if_neg (fun z => c2 (hC.2.2.num.1.mp z)), if_neg c2]
      exact ⟨ν, rfl, ⟨fun _ _ _ => rfl, fun _ _ => rfl, fun _ _ => rfl⟩, fun _ => hC, (fun z => by cases z), fun _ _ => rfl, fun z => by cases z⟩
