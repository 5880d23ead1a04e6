/-! Pure part (6): the check's gust. -/
def KM (ν ν1 : Mem) : Prop := (∀ k, k ≠ 0 → k ≠ 8 → k ≠ 9 → ν1.1 k = ν.1 k) ∧ (∀ j, j ≠ 16 → ν1.1 0 j = ν.1 0 j) ∧ ν1.2 = ν.2
theorem KM.rf (ν : Mem) : KM ν ν := ⟨fun _ _ _ _ => rfl, fun _ _ => rfl, rfl⟩
theorem KM.tr {a b c : Mem} (h1 : KM a b) (h2 : KM b c) : KM a c := ⟨fun k p q r => (h2.1 k p q r).trans (h1.1 k p q r), fun j p => (h2.2.1 j p).trans (h1.2.1 j p), h2.2.2.trans h1.2.2⟩
theorem KM.i8 (ν : Mem) (j : Nat) (v : Int32) : KM ν (stI ν 8 j v) := ⟨fun k _ q _ => stI_ne ν j v q, fun i _ => by rw [stI_ne ν j v (by decide)], rfl⟩
theorem KM.i9 (ν : Mem) (j : Nat) (v : Int32) : KM ν (stI ν 9 j v) := ⟨fun k _ _ q => stI_ne ν j v q, fun i _ => by rw [stI_ne ν j v (by decide)], rfl⟩
theorem KM.i0 (ν : Mem) (v : Int32) : KM ν (stI ν 0 16 v) := ⟨fun k q _ _ => stI_ne ν 16 v q, fun i q => by rw [stI_same, upd_ne _ _ q], rfl⟩
theorem KM.ms {ν ν1 : Mem} {t : Nat → Nat} (hK : KM ν ν1) (h : MS ν t) : MS ν1 t := ⟨by rw [hK.1 2 (by decide) (by decide) (by decide)]; exact h.1, h.2⟩
def GRM (ν1 : Mem) (l : List Nat) : Prop := ν1.1 0 16 = nI l.length ∧ ∀ j x, l[j]? = some x → ν1.1 9 j = nI x
theorem tog_clr {st k : Nat} (h : st.testBit k = true) : tog st k = clr st k := by unfold tog clr; rw [if_pos h, if_pos h]
section MGU
variable {ν : Mem} {t : Nat → Nat} {st : Nat}
theorem nx_0 (t : Nat → Nat) (pl : Nat → Nat) : nx t 0 pl = none := by
  cases h : nx t 0 pl with
  | none => rfl
  | some x => have := (nx_some h).2; simp at this
theorem M_172 (h : MS ν t) (hst : st < 256) {pl : Nat → Nat} {B : Nat} (hB : B ≤ 10000000) (hpl : PL (t 0) (ν.1 8) pl B) (K : Mem → Int32 → Int32 → Option (Int32 × Mem)) : F_M_behind_172 K ν (nI st) = K ν (nI st) (bI (nx t st pl)) := by
  unfold F_M_behind_172
  rw [M_next h hst hB hpl, bnd_s]
/-- one round: k goes -/
theorem M_round (h : MS ν t) (hst : st < 2 ^ t 0) {pl : Nat → Nat} {x k : Nat} (hx : x < 8) (hk : k < t 0) (hb : st.testBit k = true) (hpl : PL (t 0) (ν.1 8) pl (76 * 4 ^ x)) (h16 : ν.1 0 16 = nI x) (K : Mem → Int32 → Int32 → Option (Int32 × Mem)) :
    ∃ m, S_M_behind_72 K ν (nI st) (nI k) = K m (nI (clr st k)) (bI (nx t (clr st k) (hand (t 0) (clr st k) pl k))) ∧ KM ν m ∧ m.1 0 16 = nI (x + 1) ∧ m.1 9 = upd (ν.1 9) x (nI k) ∧ ∀ j, j < t 0 → m.1 8 j = nI (hand (t 0) (clr st k) pl k j) := by
  have hn := h.n2
  have hB := pow4_le (x := x) (by omega)
  have hlt := clr_lt2 (t 0) (by omega) st hst k hk
  have hst2 := Nat.lt_of_lt_of_le hst (pow_le _ hn.2)
  have hlt2 := Nat.lt_of_lt_of_le hlt (pow_le _ hn.2)
  have hpk := hpl k hk
  have hK1 : KM ν (stI (stI ν 9 x (nI k)) 0 16 (nI (x + 1))) := (KM.i9 ν _ _).tr (KM.i0 _ _)
  unfold S_M_behind_72
  rw [if_neg (neg1_ne (by omega)), h16, gd_nI (by omega) (by decide), xorM st hst2 k (by omega), tog_clr hb, nclamp (by omega), lit 1, nI_add, lit 0]
  by_cases h0 : clr st k = 0
  · rw [if_pos (by rw [h0])]
    refine ⟨_, M_172 (hK1.ms h) hlt2 (pl := hand (t 0) (clr st k) pl k) (B := 76 * 4 ^ x) (by omega) (fun j hj => ?_) K, hK1, by rw [stI_same, upd_same], by rw [stI_ne _ _ _ (by decide), stI_same], fun j hj => ?_⟩
    · unfold hand
      rw [if_pos h0, stI_ne _ _ _ (by decide), stI_ne _ _ _ (by decide)]
      exact hpl j hj
    · unfold hand
      rw [if_pos h0, stI_ne _ _ _ (by decide), stI_ne _ _ _ (by decide)]
      exact (hpl j hj).1
  · have hsb := sb_bit (t 0) (by omega) (clr st k) hlt h0 k hk
    have hsa := sa_bit (t 0) (by omega) (clr st k) hlt h0 k hk
    have e1 : (ν.1 8 k + nI 1) / (2 : Int32) = nI ((pl k + 1) / 2) := by
      rw [hpk.1, lit 2, nI_add, ndiv (by omega) (by omega)]
    have hm1 := M_sb (hK1.ms h) hlt h0 hk
    rw [lit 1] at hm1
    rw [if_neg (by rw [nI_eq (by omega) (by omega)]; exact h0), gd_nI (by omega) (by decide), hm1, bnd_s, nclamp (by omega), nclamp (by omega), gd_nI (by omega) (by decide), gd_nI (by omega) (by decide), e1]
    have hm2 := M_sa ((KM.i8 _ (sb (t 0) (clr st k) k) (ν.1 8 (sb (t 0) (clr st k) k) + nI ((pl k + 1) / 2))).ms (hK1.ms h)) hlt h0 hk
    rw [lit 1] at hm2
    rw [hm2, bnd_s, nclamp (by omega), gd_nI (by omega) (by decide), gd_nI (by omega) (by decide), gd_nI (by omega) (by decide)]
    have hh := half_le (pl k)
    have r8 : (stI (stI ν 9 x (nI k)) 0 16 (nI (x + 1))).1 8 = ν.1 8 := by rw [stI_ne _ _ _ (by decide), stI_ne _ _ _ (by decide)]
    have f1 : ∀ j, j < t 0 → (upd (ν.1 8) (sb (t 0) (clr st k) k) (ν.1 8 (sb (t 0) (clr st k) k) + nI ((pl k + 1) / 2))) j = nI (if j = sb (t 0) (clr st k) k then pl j + (pl k + 1) / 2 else pl j) := by
      intro j hj
      rw [upd_at]
      by_cases q : j = sb (t 0) (clr st k) k
      · rw [if_pos q, if_pos q, ← q, (hpl j hj).1, nI_add]
      · rw [if_neg q, if_neg q, (hpl j hj).1]
    rw [stI_same, r8]
    have hK2 := (hK1.tr (KM.i8 (stI (stI ν 9 x (nI k)) 0 16 (nI (x + 1))) (sb (t 0) (clr st k) k) (ν.1 8 (sb (t 0) (clr st k) k) + nI ((pl k + 1) / 2)))).tr (KM.i8 _ (sa (t 0) (clr st k) k) (upd (ν.1 8) (sb (t 0) (clr st k) k) (ν.1 8 (sb (t 0) (clr st k) k) + nI ((pl k + 1) / 2)) (sa (t 0) (clr st k) k) + (upd (ν.1 8) (sb (t 0) (clr st k) k) (ν.1 8 (sb (t 0) (clr st k) k) + nI ((pl k + 1) / 2)) k - nI ((pl k + 1) / 2))))
    have h8 : ∀ j, j < t 0 → (stI (stI (stI (stI ν 9 x (nI k)) 0 16 (nI (x + 1))) 8 (sb (t 0) (clr st k) k) (ν.1 8 (sb (t 0) (clr st k) k) + nI ((pl k + 1) / 2))) 8 (sa (t 0) (clr st k) k) (upd (ν.1 8) (sb (t 0) (clr st k) k) (ν.1 8 (sb (t 0) (clr st k) k) + nI ((pl k + 1) / 2)) (sa (t 0) (clr st k) k) + (upd (ν.1 8) (sb (t 0) (clr st k) k) (ν.1 8 (sb (t 0) (clr st k) k) + nI ((pl k + 1) / 2)) k - nI ((pl k + 1) / 2)))).1 8 j = nI (hand (t 0) (clr st k) pl k j) := by
      intro j hj
      unfold hand
      rw [if_neg h0, stI_same, upd_at, stI_same, r8]
      by_cases q : j = sa (t 0) (clr st k) k
      · rw [if_pos q, if_pos q, ← q, f1 j hj, f1 k (by omega), nsub (by split <;> omega), nI_add]
      · rw [if_neg q, if_neg q, f1 j hj]
    refine ⟨_, M_172 (hK2.ms h) hlt2 (pl := hand (t 0) (clr st k) pl k) (B := 4 * (76 * 4 ^ x)) (by omega) (fun j hj => ⟨h8 j hj, hand_le (n := t 0) hk (fun j hj => (hpl j hj).2) j hj⟩) K, hK2, ?_, ?_, h8⟩
    · rw [stI_ne _ _ _ (by decide), stI_ne _ _ _ (by decide), stI_same, upd_same]
    · rw [stI_ne _ _ _ (by decide), stI_ne _ _ _ (by decide), stI_ne _ _ _ (by decide), stI_same]
theorem M_rounds (hn8 : 2 ≤ t 0 ∧ t 0 ≤ 8) : ∀ d, d < 1000 → ∀ (ν : Mem) (x st : Nat) (pl : Nat → Nat), MS ν t → st < 2 ^ t 0 → PL (t 0) (ν.1 8) pl (76 * 4 ^ x) → ν.1 0 16 = nI x → pc st ≤ d → x + d ≤ 8 →
    ∃ ν1, iter S_M_behind_72 (fun _ _ _ => none) NF ν (nI st) (bI (nx t st pl)) = some (nI (gu t d st pl).1, ν1) ∧ KM ν ν1 ∧ ν1.1 0 16 = nI (x + (gu t d st pl).2.length) ∧ (∀ j, j < x → ν1.1 9 j = ν.1 9 j) ∧ ∀ j y, (gu t d st pl).2[j]? = some y → ν1.1 9 (x + j) = nI y := by
  intro d hd
  refine iter_run (f := S_M_behind_72) (z := fun _ _ _ => none) (fun d g => ∀ (ν : Mem) (x st : Nat) (pl : Nat → Nat), MS ν t → st < 2 ^ t 0 → PL (t 0) (ν.1 8) pl (76 * 4 ^ x) → ν.1 0 16 = nI x → pc st ≤ d → x + d ≤ 8 →
    ∃ ν1, g ν (nI st) (bI (nx t st pl)) = some (nI (gu t d st pl).1, ν1) ∧ KM ν ν1 ∧ ν1.1 0 16 = nI (x + (gu t d st pl).2.length) ∧ (∀ j, j < x → ν1.1 9 j = ν.1 9 j) ∧ ∀ j y, (gu t d st pl).2[j]? = some y → ν1.1 9 (x + j) = nI y) (fun g ν x st pl h hst hpl h3 hp hx => ?_) (fun d g ih ν x st pl h hst hpl h3 hp hx => ?_) NF d (NF_lt hd)
  · have hs0 : st = 0 := (pc_0 st (Nat.lt_of_lt_of_le hst (pow_le _ hn8.2))).mp (by omega)
    subst hs0
    rw [nx_0]
    refine ⟨ν, ?_, KM.rf _, by simpa [gu] using h3, fun j hj => rfl, fun j y hy => by simp [gu] at hy⟩
    unfold S_M_behind_72
    rw [if_pos (by rfl)]
    rfl
  · cases hq : nx t st pl with
    | none =>
      have e : gu t (d + 1) st pl = (st, []) := by unfold gu; rw [hq]
      rw [e]
      refine ⟨ν, ?_, KM.rf _, by simpa using h3, fun j hj => rfl, fun j y hy => by simp at hy⟩
      unfold S_M_behind_72
      rw [if_pos (by rfl)]
    | some k =>
      have hk := nx_some hq
      have hst2 := Nat.lt_of_lt_of_le hst (pow_le _ hn8.2)
      have hlt := clr_lt2 (t 0) (by omega) st hst k hk.1
      have hpc := clr_pc st hst2 k (by omega) hk.2
      obtain ⟨m, hm, hmK, hm16, hm9, hm8⟩ := M_round h hst (x := x) (by omega) hk.1 hk.2 hpl h3 g
      have hpl3 : PL (t 0) (m.1 8) (hand (t 0) (clr st k) pl k) (76 * 4 ^ (x + 1)) := fun j hj => ⟨hm8 j hj, by have := hand_le (n := t 0) (st := clr st k) (pl := pl) hk.1 (fun j hj => (hpl j hj).2) j hj; rw [Nat.pow_succ]; omega⟩
      obtain ⟨ν1, e1, e2, e4, e5, e6⟩ := ih m (x + 1) (clr st k) _ (hmK.ms h) hlt hpl3 hm16 (by omega) (by omega)
      have e : gu t (d + 1) st pl = ((gu t d (clr st k) (hand (t 0) (clr st k) pl k)).1, k :: (gu t d (clr st k) (hand (t 0) (clr st k) pl k)).2) := by
        show (match nx t st pl with | none => (st, []) | some k => _) = _
        rw [hq]
      rw [e]
      refine ⟨ν1, hm.trans e1, hmK.tr e2, by rw [e4, List.length_cons]; congr 1; omega, fun j hj => ?_, fun j y hy => ?_⟩
      · rw [e5 j (by omega), hm9, upd_ne _ _ (by omega)]
      · cases j with
        | zero =>
          simp at hy
          rw [Nat.add_zero, e5 x (by omega), hm9, upd_same, hy]
        | succ j =>
          simp at hy
          have := e6 j y hy
          rw [show x + (j + 1) = x + 1 + j by omega]
          exact this
theorem M_behind (h : MS ν t) (hst : st < 2 ^ t 0) {v s : Nat} (hv : v < 8) (hs : s ≤ 60) : ∃ ν1, F_M_behind ν (nI st) (nI v) (nI s) = some (nI (gustS t st v s).1, ν1) ∧ KM ν ν1 ∧ GRM ν1 (gustS t st v s).2 := by
  have hn := h.n2
  have hst2 := Nat.lt_of_lt_of_le hst (pow_le _ hn.2)
  have hwl : t 3 < 256 := h.2.2.2.2.2.1
  unfold F_M_behind F_M_behind_11
  have key := iter_run (f := S_M_behind_11) (z := fun _ _ _ _ _ => none) (fun d g => ∀ (ν : Mem) (k : Nat), MS ν t → ν.1 0 16 = nI 0 → (∀ j, j < k → ν.1 8 j = nI (pl0 t st v s j)) → k + d = t 0 → ∃ ν1, g ν (nI v) (nI s) (nI st) (nI k) = some (nI (gustS t st v s).1, ν1) ∧ KM ν ν1 ∧ GRM ν1 (gustS t st v s).2) (fun g ν k h h3 hp hk => ?_) (fun d g ih ν k h h3 hp hk => ?_) NF (t 0) (NF_lt (by omega))
  · obtain ⟨ν1, e1, e2, e3⟩ := key (stI ν 0 16 0) 0 ((KM.i0 ν _).ms h) (by rw [stI_same, upd_same]; rfl) (fun j hj => by omega) (by omega)
    exact ⟨ν1, e1, (KM.i0 ν _).tr e2, e3⟩
  · have hpl : PL (t 0) (ν.1 8) (pl0 t st v s) (76 * 4 ^ 0) := fun j hj => ⟨hp j (by omega), by
      unfold pl0
      split
      · have := pull_le (t := t) (k := j) (v := v) (r := 0) (wl := t 3) (s := s) (by omega); omega
      · omega⟩
    unfold S_M_behind_11 F_M_behind_72
    simp only [lit]
    rw [gd_nI (by decide) (by decide), nclamp (by decide), h.n, if_pos ((nI_leI (by omega) (by omega)).mpr (by omega)), M_next h hst2 (by decide) hpl, bnd_s]
    obtain ⟨ν1, e1, e2, e4, e5, e6⟩ := M_rounds hn (t 0) (by omega) ν 0 st (pl0 t st v s) h hst hpl h3 (pc_le2 _ (by omega) st hst) (by omega)
    refine ⟨ν1, e1, e2, by rw [e4, Nat.zero_add]; rfl, fun j y hy => by have := e6 j y hy; rwa [Nat.zero_add] at this⟩
  · have hrow : ∀ z : Int32, z = nI (pl0 t st v s k) → ∃ ν1, g (stI ν 8 k z) (nI v) (nI s) (nI st) (nI (k + 1)) = some (nI (gustS t st v s).1, ν1) ∧ KM ν ν1 ∧ GRM ν1 (gustS t st v s).2 := by
      intro z hz
      obtain ⟨ν1, e1, e2, e3⟩ := ih (stI ν 8 k z) (k + 1) ((KM.i8 ν k _).ms h) (by rw [stI_ne _ _ _ (by decide)]; exact h3) (fun j hj => by
        rw [stI_same, upd_at]
        by_cases q : j = k
        · rw [if_pos q, q, hz]
        · rw [if_neg q]; exact hp j (by omega)) (by omega)
      exact ⟨ν1, e1, (KM.i8 ν k _).tr e2, e3⟩
    unfold S_M_behind_11
    simp only [lit]
    rw [gd_nI (by decide) (by decide), nclamp (by decide), h.n, if_neg (fun q => by have := (nI_leI (by omega) (by omega)).mp q; omega), hasM st hst2 _ (by omega), bnd_s, gd_nI (by omega) (by decide), gd_nI (by decide) (by decide), nclamp (by omega), nclamp (by omega), h.at 3 (by decide), M_pullOf h (by omega) hv (by omega) (by omega) hwl, bnd_s, gd_nI (by omega) (by decide), nI_add]
    cases hb : st.testBit k with
    | false =>
      rw [if_pos (by decide)]
      exact hrow _ (by unfold pl0; rw [hb]; rfl)
    | true =>
      rw [if_neg (by decide)]
      exact hrow _ (by unfold pl0; rw [hb]; rfl)
end MGU
