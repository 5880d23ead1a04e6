/-! Pure part (5): a gust, as both sides work it out. -/
def hand (n st : Nat) (pl : Nat → Nat) (k : Nat) : Nat → Nat :=
  if st = 0 then pl else
    fun j => if j = sa n st k then (if j = sb n st k then pl j + (pl k + 1) / 2 else pl j) + ((if k = sb n st k then pl k + (pl k + 1) / 2 else pl k) - (pl k + 1) / 2) else (if j = sb n st k then pl j + (pl k + 1) / 2 else pl j)
def gu (t : Nat → Nat) : Nat → Nat → (Nat → Nat) → Nat × List Nat
  | 0, st, _ => (st, [])
  | f + 1, st, pl => match nx t st pl with
    | none => (st, [])
    | some k => ((gu t f (clr st k) (hand (t 0) (clr st k) pl k)).1, k :: (gu t f (clr st k) (hand (t 0) (clr st k) pl k)).2)
def pl0 (t : Nat → Nat) (st v s : Nat) : Nat → Nat := fun k => if st.testBit k then pull t k v s 0 (t 3) else 0
def gustS (t : Nat → Nat) (st v s : Nat) : Nat × List Nat := gu t (t 0) st (pl0 t st v s)
theorem gu_lt {t : Nat → Nat} (hn : t 0 ≤ 8) : ∀ f st pl, st < 2 ^ t 0 → (gu t f st pl).1 < 2 ^ t 0 := by
  intro f
  induction f with
  | zero => intro st pl h; exact h
  | succ f ih =>
    intro st pl h
    unfold gu
    cases hq : nx t st pl with
    | none => exact h
    | some k =>
      have hk := nx_some hq
      exact ih _ _ (clr_lt2 _ (by omega) st h k hk.1)
theorem gu_len {t : Nat → Nat} : ∀ f st pl, (gu t f st pl).2.length ≤ f := by
  intro f
  induction f with
  | zero => intro st pl; exact Nat.le_refl _
  | succ f ih =>
    intro st pl
    unfold gu
    cases hq : nx t st pl with
    | none => exact Nat.zero_le _
    | some k => exact Nat.succ_le_succ (ih _ _)
theorem gu_mem {t : Nat → Nat} (hn : t 0 ≤ 8) : ∀ f st pl, ∀ x ∈ (gu t f st pl).2, x < 8 := by
  intro f
  induction f with
  | zero => intro st pl x h; cases h
  | succ f ih =>
    intro st pl x h
    unfold gu at h
    cases hq : nx t st pl with
    | none => rw [hq] at h; cases h
    | some k =>
      rw [hq] at h
      have hk := nx_some hq
      rcases List.mem_cons.mp h with h | h
      · omega
      · exact ih _ _ x h
theorem half_le (a : Nat) : (a + 1) / 2 ≤ a := by omega
theorem hand_le {n st k B : Nat} {pl : Nat → Nat} (hk : k < n) (h : ∀ j, j < n → pl j ≤ B) : ∀ j, j < n → hand n st pl k j ≤ 4 * B := by
  intro j hj
  have h1 := h j hj
  have h2 := h k hk
  unfold hand
  by_cases h0 : st = 0
  · rw [if_pos h0]; omega
  · rw [if_neg h0]
    repeat' split
    all_goals omega
/-- what a gust leaves as it is, in the class -/
def K789 (μ μ1 : Mem) : Prop := (∀ k, k ≠ 7 → k ≠ 8 → k ≠ 9 → μ1.1 k = μ.1 k) ∧ (∀ j, j ≠ 3 → j ≠ 4 → μ1.1 7 j = μ.1 7 j) ∧ μ1.2 = μ.2
theorem K789.rf (μ : Mem) : K789 μ μ := ⟨fun _ _ _ _ => rfl, fun _ _ _ => rfl, rfl⟩
theorem K789.tr {a b c : Mem} (h1 : K789 a b) (h2 : K789 b c) : K789 a c := ⟨fun k p q r => (h2.1 k p q r).trans (h1.1 k p q r), fun j p q => (h2.2.1 j p q).trans (h1.2.1 j p q), h2.2.2.trans h1.2.2⟩
theorem K789.i8 (μ : Mem) (j : Nat) (v : Int32) : K789 μ (stI μ 8 j v) := ⟨fun k _ q _ => stI_ne μ j v q, fun i _ _ => by rw [stI_ne μ j v (by decide)], rfl⟩
theorem K789.i9 (μ : Mem) (j : Nat) (v : Int32) : K789 μ (stI μ 9 j v) := ⟨fun k _ _ q => stI_ne μ j v q, fun i _ _ => by rw [stI_ne μ j v (by decide)], rfl⟩
theorem K789.i7 (μ : Mem) (j : Nat) (v : Int32) (hj : j = 3 ∨ j = 4) : K789 μ (stI μ 7 j v) := ⟨fun k q _ _ => stI_ne μ j v q, fun i p q => by rw [stI_same, upd_ne _ _ (by omega)], rfl⟩
theorem CF.keep {μ μ1 : Mem} {b : Nat} {t : Nat → Nat} (h : CF μ b t) (hk : ∀ k, b ≤ k → k ≤ b + 5 → μ1.1 k = μ.1 k) : CF μ1 b t := by
  obtain ⟨⟨a1, a2, a3, a4, a5⟩, b1, b2, b3, b4, b5⟩ := h
  refine ⟨⟨?_, ?_, ?_, ?_, ?_⟩, fun k q => ?_, fun k q => ?_, fun k q => ?_, fun k q => ?_, fun k q => ?_⟩
  · rw [hk b (by omega) (by omega)]; exact a1
  · rw [hk b (by omega) (by omega)]; exact a2
  · rw [hk b (by omega) (by omega)]; exact a3
  · rw [hk b (by omega) (by omega)]; exact a4
  · rw [hk b (by omega) (by omega)]; exact a5
  · rw [hk (b + 1) (by omega) (by omega)]; exact b1 k q
  · rw [hk (b + 2) (by omega) (by omega)]; exact b2 k q
  · rw [hk (b + 3) (by omega) (by omega)]; exact b3 k q
  · rw [hk (b + 4) (by omega) (by omega)]; exact b4 k q
  · rw [hk (b + 5) (by omega) (by omega)]; exact b5 k q
/-- the gale as it is, but for who stands -/
def GB (μ : Mem) (t : Nat → Nat) (st : Nat) : Prop := GS μ t st (t 3) 0 0
theorem GB.mk2 {μ μ1 : Mem} {t : Nat → Nat} {st st1 : Nat} (h : GB μ t st) (hK : K789 μ μ1) (hs : μ1.1 7 4 = nI st1) (hlt : st1 < 2 ^ t 0) : GB μ1 t st1 := by
  obtain ⟨c1, c2, c3, c4, c5, c6, c7, c8, c9, c10⟩ := h
  exact ⟨c1.keep (fun k q1 q2 => hK.1 k (by omega) (by omega) (by omega)), c2, hlt, c4, c5, c6, hs, by rw [hK.2.1 5 (by decide) (by decide)]; exact c8, by rw [hK.2.1 6 (by decide) (by decide)]; exact c9, by rw [hK.2.1 7 (by decide) (by decide)]; exact c10⟩
section GU
variable {μ : Mem} {t : Nat → Nat} {st : Nat}
theorem C_hand (h : GB μ t st) {pl : Nat → Nat} {B k : Nat} (hB : B ≤ 10000000) (hk : k < t 0) (hpl : PL (t 0) (μ.1 8) pl B) : ∃ μ1, F_G_handOn μ (nI k) = some μ1 ∧ K789 μ μ1 ∧ μ1.1 7 = μ.1 7 ∧ μ1.1 9 = μ.1 9 ∧ ∀ j, j < t 0 → μ1.1 8 j = nI (hand (t 0) st pl k j) := by
  have hn := h.n2
  have hpk := hpl k (by omega)
  have hst := h.stn
  unfold F_G_handOn
  rw [hst, lit 0]
  by_cases h0 : st = 0
  · refine ⟨μ, by rw [h0, if_pos rfl], K789.rf _, rfl, rfl, fun j hj => ?_⟩
    unfold hand
    rw [if_pos h0]
    exact (hpl j hj).1
  · have hsb := sb_bit (t 0) (by omega) st h.2.2.1 h0 k hk
    have hsa := sa_bit (t 0) (by omega) st h.2.2.1 h0 k hk
    have e1 : (μ.1 8 k + (1 : Int32)) / (2 : Int32) = nI ((pl k + 1) / 2) := by
      rw [hpk.1, lit 1, lit 2, nI_add, ndiv (by omega) (by omega)]
    rw [if_neg (by rw [nI_eq (by have := h.st256; omega) (by omega)]; exact h0), gd_nI (by omega) (by decide), C_sb h hk, bnd_s, nclamp (by omega), nclamp (by omega), gd_nI (by omega) (by decide), gd_nI (by omega) (by decide), e1]
    rw [C_sa (wl := t 3) (r := 0) (db := 0) (h.mk2 (K789.i8 _ _ _) (by rw [stI_ne _ _ _ (by decide)]; exact hst) h.2.2.1) hk, bnd_s, nclamp (by omega), gd_nI (by omega) (by decide), gd_nI (by omega) (by decide), gd_nI (by omega) (by decide)]
    refine ⟨_, rfl, (K789.i8 _ _ _).tr (K789.i8 _ _ _), by rw [stI_ne _ _ _ (by decide), stI_ne _ _ _ (by decide)], by rw [stI_ne _ _ _ (by decide), stI_ne _ _ _ (by decide)], fun j hj => ?_⟩
    have hh := half_le (pl k)
    have f1 : ∀ j, j < t 0 → (upd (μ.1 8) (sb (t 0) st k) (μ.1 8 (sb (t 0) st k) + nI ((pl k + 1) / 2))) j = nI (if j = sb (t 0) st k then pl j + (pl k + 1) / 2 else pl j) := by
      intro j hj
      rw [upd_at]
      by_cases q : j = sb (t 0) st k
      · rw [if_pos q, if_pos q, ← q, (hpl j hj).1, nI_add]
      · rw [if_neg q, if_neg q, (hpl j hj).1]
    unfold hand
    rw [if_neg h0, stI_same, upd_at, stI_same]
    by_cases q : j = sa (t 0) st k
    · rw [if_pos q, if_pos q, ← q, f1 j hj, f1 k (by omega), nsub (by split <;> omega), nI_add]
    · rw [if_neg q, if_neg q, f1 j hj]
/-- what a gust answers, in the class: gone and went -/
def GR (μ1 : Mem) (r : Nat × List Nat) : Prop := μ1.1 7 4 = nI r.1 ∧ μ1.1 7 3 = nI r.2.length ∧ ∀ j x, r.2[j]? = some x → μ1.1 9 j = nI x
theorem pow4 {x d : Nat} (h : x + (d + 1) ≤ 8) : 4 * (76 * 4 ^ x) = 76 * 4 ^ (x + 1) := by rw [Nat.pow_succ]; omega
theorem pow4_le {x : Nat} (h : x ≤ 7) : 76 * 4 ^ x ≤ 2000000 := by
  rcases (show x = 0 ∨ x = 1 ∨ x = 2 ∨ x = 3 ∨ x = 4 ∨ x = 5 ∨ x = 6 ∨ x = 7 by omega) with rfl | rfl | rfl | rfl | rfl | rfl | rfl | rfl <;> decide
theorem C_rounds (hn8 : 2 ≤ t 0 ∧ t 0 ≤ 8) : ∀ d, d < 1000 → ∀ (μ : Mem) (x st : Nat) (pl : Nat → Nat), GB μ t st → PL (t 0) (μ.1 8) pl (76 * 4 ^ x) → μ.1 7 3 = nI x → x + d = t 0 →
    ∃ μ1, iter S_G_blow_39 (fun _ _ => none) NF μ (nI x) = some μ1 ∧ K789 μ μ1 ∧ μ1.1 7 4 = nI (gu t d st pl).1 ∧ μ1.1 7 3 = nI (x + (gu t d st pl).2.length) ∧ (∀ j, j < x → μ1.1 9 j = μ.1 9 j) ∧ ∀ j y, (gu t d st pl).2[j]? = some y → μ1.1 9 (x + j) = nI y := by
  intro d hd
  refine iter_run (f := S_G_blow_39) (z := fun _ _ => none) (fun d g => ∀ (μ : Mem) (x st : Nat) (pl : Nat → Nat), GB μ t st → PL (t 0) (μ.1 8) pl (76 * 4 ^ x) → μ.1 7 3 = nI x → x + d = t 0 →
    ∃ μ1, g μ (nI x) = some μ1 ∧ K789 μ μ1 ∧ μ1.1 7 4 = nI (gu t d st pl).1 ∧ μ1.1 7 3 = nI (x + (gu t d st pl).2.length) ∧ (∀ j, j < x → μ1.1 9 j = μ.1 9 j) ∧ ∀ j y, (gu t d st pl).2[j]? = some y → μ1.1 9 (x + j) = nI y) (fun g μ x st pl h hpl h3 hx => ?_) (fun d g ih μ x st pl h hpl h3 hx => ?_) NF d (NF_lt hd)
  · refine ⟨μ, ?_, K789.rf _, h.stn, ?_, fun j hj => rfl, fun j y hy => by simp [gu] at hy⟩
    · unfold S_G_blow_39
      rw [h.pegs, if_pos ((nI_leI (by omega) (by omega)).mpr (by omega))]
    · simpa [gu] using h3
  · have hB := pow4_le (x := x) (by omega)
    unfold S_G_blow_39
    rw [h.pegs, if_neg (fun q => by have := (nI_leI (by omega) (by omega)).mp q; omega), C_next h (by omega) hpl, bnd_s]
    cases hq : nx t st pl with
    | none =>
      have e : gu t (d + 1) st pl = (st, []) := by unfold gu; rw [hq]
      rw [e]
      exact ⟨μ, by rw [if_pos (by rfl)], K789.rf _, h.stn, by simpa using h3, fun j hj => rfl, fun j y hy => by simp at hy⟩
    | some k =>
      have hk := nx_some hq
      have hst := h.stn
      have hlt := clr_lt2 (t 0) (by omega) st h.2.2.1 k hk.1
      rw [show bI (some k) = nI k from rfl, if_neg (neg1_ne (by omega)), hst, with0 st h.st256 k (by omega), bnd_s, h3, gd_nI (by omega) (by decide), nclamp (by omega), lit 1, nI_add]
      have hK : K789 μ (stI (stI (stI μ 7 4 (nI (clr st k))) 9 x (nI k)) 7 3 (nI (x + 1))) := ((K789.i7 μ 4 _ (Or.inr rfl)).tr (K789.i9 _ _ _)).tr (K789.i7 _ 3 _ (Or.inl rfl))
      have h74 : (stI (stI (stI μ 7 4 (nI (clr st k))) 9 x (nI k)) 7 3 (nI (x + 1))).1 7 4 = nI (clr st k) := by rw [stI_same, upd_ne _ _ (by decide), stI_ne _ _ _ (by decide), stI_same, upd_same]
      have hG : GB (stI (stI (stI μ 7 4 (nI (clr st k))) 9 x (nI k)) 7 3 (nI (x + 1))) t (clr st k) := h.mk2 hK h74 hlt
      have hpl2 : PL (t 0) ((stI (stI (stI μ 7 4 (nI (clr st k))) 9 x (nI k)) 7 3 (nI (x + 1))).1 8) pl (76 * 4 ^ x) := by rw [stI_ne _ _ _ (by decide), stI_ne _ _ _ (by decide), stI_ne _ _ _ (by decide)]; exact hpl
      obtain ⟨m, hm, hmK, hm7, hm9, hm8⟩ := C_hand hG (B := 76 * 4 ^ x) (by omega) hk.1 hpl2
      rw [hm, bnd_s]
      have hG2 : GB m t (clr st k) := hG.mk2 hmK (by rw [hm7]; exact h74) hlt
      have h73 : m.1 7 3 = nI (x + 1) := by rw [hm7, stI_same, upd_same]
      have hpl3 : PL (t 0) (m.1 8) (hand (t 0) (clr st k) pl k) (76 * 4 ^ (x + 1)) := fun j hj => ⟨hm8 j hj, by have := hand_le (n := t 0) (st := clr st k) (pl := pl) hk.1 (fun j hj => (hpl j hj).2) j hj; rw [Nat.pow_succ]; omega⟩
      obtain ⟨μ1, e1, e2, e3, e4, e5, e6⟩ := ih m (x + 1) (clr st k) _ hG2 hpl3 h73 (by omega)
      have e : gu t (d + 1) st pl = ((gu t d (clr st k) (hand (t 0) (clr st k) pl k)).1, k :: (gu t d (clr st k) (hand (t 0) (clr st k) pl k)).2) := by
        show (match nx t st pl with | none => (st, []) | some k => _) = _
        rw [hq]
      rw [e]
      refine ⟨μ1, e1, (hK.tr hmK).tr e2, e3, by rw [e4, List.length_cons]; congr 1; omega, fun j hj => ?_, fun j y hy => ?_⟩
      · rw [e5 j (by omega), hm9, stI_ne _ _ _ (by decide), stI_same, upd_ne _ _ (by omega), stI_ne _ _ _ (by decide)]
      · cases j with
        | zero =>
          simp at hy
          rw [Nat.add_zero, e5 x (by omega), hm9, stI_ne _ _ _ (by decide), stI_same, upd_same, hy]
        | succ j =>
          simp at hy
          have := e6 j y hy
          rw [show x + (j + 1) = x + 1 + j by omega]
          exact this
theorem C_blow (h : GB μ t st) {v s : Nat} (hv : v < 8) (hs : s ≤ 60) : ∃ μ1, F_G_blow μ (nI v) (nI s) = some μ1 ∧ K789 μ μ1 ∧ GR μ1 (gustS t st v s) := by
  have hn := h.n2
  unfold F_G_blow F_G_blow_7
  have key := iter_run (f := S_G_blow_7) (z := fun _ _ _ _ => none) (fun d g => ∀ (μ : Mem) (k : Nat), GB μ t st → μ.1 7 3 = nI 0 → (∀ j, j < k → μ.1 8 j = nI (pl0 t st v s j)) → k + d = t 0 → ∃ μ1, g μ (nI v) (nI s) (nI k) = some μ1 ∧ K789 μ μ1 ∧ GR μ1 (gustS t st v s)) (fun g μ k h h3 hp hk => ?_) (fun d g ih μ k h h3 hp hk => ?_) NF (t 0) (NF_lt (by omega))
  · obtain ⟨μ1, e1, e2, e3⟩ := key (stI μ 7 3 0) 0 (h.mk2 (K789.i7 μ 3 _ (Or.inl rfl)) (by rw [stI_same, upd_ne _ _ (by decide)]; exact h.stn) h.2.2.1) (by rw [stI_same, upd_same]; rfl) (fun j hj => by omega) (by omega)
    exact ⟨μ1, e1, (K789.i7 μ 3 _ (Or.inl rfl)).tr e2, e3⟩
  · unfold S_G_blow_7 F_G_blow_39
    rw [h.pegs, if_pos ((nI_leI (by omega) (by omega)).mpr (by omega))]
    have hpl : PL (t 0) (μ.1 8) (pl0 t st v s) (76 * 4 ^ 0) := fun j hj => ⟨hp j (by omega), by
      unfold pl0
      split
      · have := pull_le (t := t) (k := j) (v := v) (r := 0) (wl := t 3) (s := s) (by omega); omega
      · omega⟩
    obtain ⟨μ1, e1, e2, e3, e4, e5, e6⟩ := C_rounds hn (t 0) (by omega) μ 0 st (pl0 t st v s) h hpl h3 (by omega)
    refine ⟨μ1, e1, e2, e3, by rw [e4, Nat.zero_add]; rfl, fun j y hy => by have := e6 j y hy; rwa [Nat.zero_add] at this⟩
  · unfold S_G_blow_7
    rw [h.pegs, if_neg (fun q => by have := (nI_leI (by omega) (by omega)).mp q; omega), C_pullOn h (by omega) hv (by omega), bnd_s, gd_nI (by omega) (by decide), nclamp (by omega), lit 1, nI_add]
    obtain ⟨μ1, e1, e2, e3⟩ := ih (stI μ 8 k (nI (pl0 t st v s k))) (k + 1) (h.mk2 (K789.i8 μ k _) (by rw [stI_ne _ _ _ (by decide)]; exact h.stn) h.2.2.1) (by rw [stI_ne _ _ _ (by decide)]; exact h3) (fun j hj => by
      rw [stI_same, upd_at]
      by_cases q : j = k
      · rw [if_pos q, q]
      · rw [if_neg q]; exact hp j (by omega)) (by omega)
    exact ⟨μ1, e1, (K789.i8 μ k _).tr e2, e3⟩
end GU
