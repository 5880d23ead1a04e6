/-! Pure part (5): a gust, as both sides work it out. -/
def hand (n st : Nat) (pl : Nat → Nat) (k : Nat) : Nat → Nat :=
  if st = 0 then pl else
    fun j => if j = sa n st k then (if j = sb n st k then pl j + (pl k + 1) / 2 else pl j) + ((if k = sb n st k then pl k + (pl k + 1) / 2 else pl k) - (pl k + 1) / 2) else (if j = sb n st k then pl j + (pl k + 1) / 2 else pl j)
def gu (t : Nat → Nat) : Nat → Nat → (Nat → Nat) → Nat × List Nat
  | 0, st, _ => (st, [])
  | f + 1, st, pl => match nx t st pl with
    | none => (st, [])
    | some k => ((gu t f (clr st k) (hand (t 0) (clr st k) pl k)).1, k :: (gu t f (clr st k) (hand (t 0) (clr st k) pl k)).2)
def pl0 (t : Nat → Nat) (st v s : Nat) : Nat → Nat := fun k => if st.testBit k then pull t k v s 0 (t 3) else 0
def gustS (t : Nat → Nat) (st v s : Nat) : Nat × List Nat := gu t (t 0) st (pl0 t st v s)
theorem gu_lt {t : Nat → Nat} (hn : t 0 ≤ 8) : ∀ f st pl, st < 2 ^ t 0 → (gu t f st pl).1 < 2 ^ t 0 := by
  intro f
  induction f with
  | zero => intro st pl h; exact h
  | succ f ih =>
    intro st pl h
    unfold gu
    cases hq : nx t st pl with
    | none => exact h
    | some k =>
      have hk := nx_some hq
      exact ih _ _ (clr_lt2 _ (by omega) st h k hk.1)
theorem gu_len {t : Nat → Nat} : ∀ f st pl, (gu t f st pl).2.length ≤ f := by
  intro f
  induction f with
  | zero => intro st pl; exact Nat.le_refl _
  | succ f ih =>
    intro st pl
    unfold gu
    cases hq : nx t st pl with
    | none => exact Nat.zero_le _
    | some k => exact Nat.succ_le_succ (ih _ _)
theorem gu_mem {t : Nat → Nat} (hn : t 0 ≤ 8) : ∀ f st pl, ∀ x ∈ (gu t f st pl).2, x < 8 := by
  intro f
  induction f with
  | zero => intro st pl x h; cases h
  | succ f ih =>
    intro st pl x h
    unfold gu at h
    cases hq : nx t st pl with
    | none => rw [hq] at h; cases h
    | some k =>
      rw [hq] at h
      have hk := nx_some hq
      rcases List.mem_cons.mp h with h | h
      · omega
      · exact ih _ _ x h
theorem half_le (a : Nat) : (a + 1) / 2 ≤ a := by omega
theorem hand_le {n st k B : Nat} {pl : Nat → Nat} (hk : k < 8) (h : ∀ j, j < 8 → pl j ≤ B) : ∀ j, j < 8 → hand n st pl k j ≤ 4 * B := by
  intro j hj
  have h1 := h j hj
  have h2 := h k hk
  unfold hand
  by_cases h0 : st = 0
  · rw [if_pos h0]; omega
  · rw [if_neg h0]
    dsimp only
    repeat' split
    all_goals omega
/-- what a gust leaves as it is, in the class -/
def K789 (μ μ1 : Mem) : Prop := (∀ k, k ≠ 7 → k ≠ 8 → k ≠ 9 → μ1.1 k = μ.1 k) ∧ (∀ j, j ≠ 3 → j ≠ 4 → μ1.1 7 j = μ.1 7 j) ∧ μ1.2 = μ.2
theorem K789.rf (μ : Mem) : K789 μ μ := ⟨fun _ _ _ _ => rfl, fun _ _ _ => rfl, rfl⟩
theorem K789.tr {a b c : Mem} (h1 : K789 a b) (h2 : K789 b c) : K789 a c := ⟨fun k p q r => (h2.1 k p q r).trans (h1.1 k p q r), fun j p q => (h2.2.1 j p q).trans (h1.2.1 j p q), h2.2.2.trans h1.2.2⟩
theorem K789.i8 (μ : Mem) (j : Nat) (v : Int32) : K789 μ (stI μ 8 j v) := ⟨fun k _ q _ => stI_ne μ j v q, fun i _ _ => by rw [stI_ne μ j v (by decide)], rfl⟩
theorem K789.i9 (μ : Mem) (j : Nat) (v : Int32) : K789 μ (stI μ 9 j v) := ⟨fun k _ _ q => stI_ne μ j v q, fun i _ _ => by rw [stI_ne μ j v (by decide)], rfl⟩
theorem K789.i7 (μ : Mem) (j : Nat) (v : Int32) (hj : j = 3 ∨ j = 4) : K789 μ (stI μ 7 j v) := ⟨fun k q _ _ => stI_ne μ j v q, fun i p q => by rw [stI_same, upd_ne _ _ (by omega)], rfl⟩
theorem CF.keep {μ μ1 : Mem} {b : Nat} {t : Nat → Nat} (h : CF μ b t) (hk : ∀ k, b ≤ k → k ≤ b + 5 → μ1.1 k = μ.1 k) : CF μ1 b t := by
  obtain ⟨⟨a1, a2, a3, a4, a5⟩, b1, b2, b3, b4, b5⟩ := h
  refine ⟨⟨?_, ?_, ?_, ?_, ?_⟩, fun k q => ?_, fun k q => ?_, fun k q => ?_, fun k q => ?_, fun k q => ?_⟩
  · rw [hk b (by omega) (by omega)]; exact a1
  · rw [hk b (by omega) (by omega)]; exact a2
  · rw [hk b (by omega) (by omega)]; exact a3
  · rw [hk b (by omega) (by omega)]; exact a4
  · rw [hk b (by omega) (by omega)]; exact a5
  · rw [hk (b + 1) (by omega) (by omega)]; exact b1 k q
  · rw [hk (b + 2) (by omega) (by omega)]; exact b2 k q
  · rw [hk (b + 3) (by omega) (by omega)]; exact b3 k q
  · rw [hk (b + 4) (by omega) (by omega)]; exact b4 k q
  · rw [hk (b + 5) (by omega) (by omega)]; exact b5 k q
/-- the gale as it is, but for who stands -/
def GB (μ : Mem) (t : Nat → Nat) (st : Nat) : Prop := GS μ t st (t 3) 0 0
theorem GB.mk2 {μ μ1 : Mem} {t : Nat → Nat} {st st1 : Nat} (h : GB μ t st) (hK : K789 μ μ1) (hs : μ1.1 7 4 = nI st1) (hlt : st1 < 2 ^ t 0) : GB μ1 t st1 := by
  obtain ⟨c1, c2, c3, c4, c5, c6, c7, c8, c9, c10⟩ := h
  exact ⟨c1.keep (fun k q1 q2 => hK.1 k (by omega) (by omega) (by omega)), c2, hlt, c4, c5, c6, hs, by rw [hK.2.1 5 (by decide) (by decide)]; exact c8, by rw [hK.2.1 6 (by decide) (by decide)]; exact c9, by rw [hK.2.1 7 (by decide) (by decide)]; exact c10⟩
section GU
variable {μ : Mem} {t : Nat → Nat} {st : Nat}
theorem C_hand (h : GB μ t st) {pl : Nat → Nat} {B k : Nat} (hB : B ≤ 100000) (hk : k < t 0) (hpl : PL (μ.1 8) pl B) : ∃ μ1, F_G_handOn μ (nI k) = some μ1 ∧ K789 μ μ1 ∧ μ1.1 7 = μ.1 7 ∧ μ1.1 9 = μ.1 9 ∧ ∀ j, j < 8 → μ1.1 8 j = nI (hand (t 0) st pl k j) := by
  have hn := h.n2
  have hpk := hpl k (by omega)
  have hst := h.stn
  unfold F_G_handOn
  rw [hst, lit 0]
  by_cases h0 : st = 0
  · refine ⟨μ, by rw [h0, if_pos rfl], K789.rf _, rfl, rfl, fun j hj => ?_⟩
    unfold hand
    rw [if_pos h0]
    exact (hpl j hj).1
  · have hsb := sb_bit (t 0) (by omega) st h.2.2.1 h0 k hk
    have hsa := sa_bit (t 0) (by omega) st h.2.2.1 h0 k hk
    have e1 : (μ.1 8 k + (1 : Int32)) / (2 : Int32) = nI ((pl k + 1) / 2) := by
      rw [hpk.1, lit 1, lit 2, nI_add, ndiv (by omega) (by omega)]
    rw [if_neg (by rw [nI_eq (by have := h.st256; omega) (by omega)]; exact h0), gd_nI (by omega) (by decide), C_sb h hk, bnd_s, nclamp (by omega), nclamp (by omega), gd_nI (by omega) (by decide), gd_nI (by omega) (by decide), e1]
    rw [C_sa (wl := t 3) (r := 0) (db := 0) (h.mk2 (K789.i8 _ _ _) (by rw [stI_ne _ _ _ (by decide)]; exact hst) h.2.2.1) hk, bnd_s, nclamp (by omega), gd_nI (by omega) (by decide), gd_nI (by omega) (by decide), gd_nI (by omega) (by decide)]
    refine ⟨_, rfl, (K789.i8 _ _ _).tr (K789.i8 _ _ _), by rw [stI_ne _ _ _ (by decide), stI_ne _ _ _ (by decide)], by rw [stI_ne _ _ _ (by decide), stI_ne _ _ _ (by decide)], fun j hj => ?_⟩
    have hpb := hpl (sb (t 0) st k) (by omega)
    have hpa := hpl (sa (t 0) st k) (by omega)
    have hpj := hpl j hj
    have hh := half_le (pl k)
    unfold hand
    rw [if_neg h0]
    simp only [stI_same, upd_at, hpb.1, hpa.1, hpj.1, hpk.1]
    by_cases c1 : j = sa (t 0) st k <;> by_cases c2 : sa (t 0) st k = sb (t 0) st k <;> by_cases c3 : k = sb (t 0) st k <;> by_cases c4 : j = sb (t 0) st k <;> simp only [c1, c2, c3, c4, if_true, if_false, reduceIte] <;> (try simp only [nI_add]) <;> (try rw [nsub (by omega)]) <;> (try simp only [nI_add]) <;> (try omega) <;> (try (congr 1; omega))
end GU
