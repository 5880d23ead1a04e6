/-! Pure part (37): words by their letters and by their number. -/
def wcode (k : Nat) : Nat := if k = 4 then 397703 else if k = 5 then 11806 else if k = 6 then 16922 else if k = 7 then 453774 else if k = 8 then 298288 else 149099
theorem wcode_lt (j : Nat) : wcode j < 2 ^ 31 := by
  unfold wcode
  repeat' split
  all_goals decide
def wvN (c : Nat → Nat) : Nat → Nat → Nat → Int64 → Int64
  | 0, _, _, a => a
  | n + 1, p, i, a => wvN c n (p + 1) (i + 1) (if 5 ≤ i then -1 else 27 * a + (nI (c p)).toInt64 - 96)
theorem wvM_N (c : Nat → Nat) : ∀ d p i a, wvM c d p i a = wvN c (run lt c d p - p) p i a := by
  intro d
  induction d with
  | zero =>
    intro p i a
    show a = wvN c (p - p) p i a
    rw [Nat.sub_self]; rfl
  | succ d ih =>
    intro p i a
    show (if lt (c p) = true then wvM c d (p + 1) (i + 1) (if 5 ≤ i then -1 else 27 * a + (nI (c p)).toInt64 - 96) else a) = wvN c ((if lt (c p) = true then run lt c d (p + 1) else p) - p) p i a
    have hr := run_le lt c d (p + 1)
    by_cases e : lt (c p) = true
    · rw [if_pos e, if_pos e, ih, show run lt c d (p + 1) - p = (run lt c d (p + 1) - (p + 1)) + 1 by omega]
      rfl
    · rw [if_neg e, if_neg e, Nat.sub_self]; rfl
theorem wvN_s (c : Nat → Nat) (n p i a : Nat) (hi : i < 5) (h : 97 ≤ c p) (h2 : c p ≤ 122) : wvN c (n + 1) p i (lN a) = wvN c n (p + 1) (i + 1) (lN (27 * a + c p - 96)) := by
  show wvN c n (p + 1) (i + 1) (if 5 ≤ i then -1 else 27 * lN a + (nI (c p)).toInt64 - 96) = _
  rw [if_neg (by omega), nI_l (by omega), litL 27, litL 96, lN_mul, lN_add, lN_sub (by omega)]
theorem wvN_m (c : Nat → Nat) : ∀ n p i, 5 ≤ i → wvN c n p i (-1) = -1 := by
  intro n
  induction n with
  | zero => intro p i _; rfl
  | succ n ih =>
    intro p i h
    show wvN c n (p + 1) (i + 1) (if 5 ≤ i then -1 else 27 * -1 + (nI (c p)).toInt64 - 96) = -1
    rw [if_pos h]; exact ih _ _ (by omega)
theorem spf_iff (c : Nat → Nat) (w s : Nat) : ∀ d i, spf c w s d i = true ↔ ∀ j, i ≤ j → j < i + d → c (s + j) = wl w j := by
  intro d
  induction d with
  | zero => intro i; exact ⟨fun _ j h1 h2 => absurd h2 (by omega), fun _ => rfl⟩
  | succ d ih =>
    intro i
    show (if c (s + i) = wl w i then spf c w s d (i + 1) else false) = true ↔ _
    by_cases e : c (s + i) = wl w i
    · rw [if_pos e, ih]
      refine ⟨fun h j h1 h2 => ?_, fun h j h1 h2 => h j (by omega) (by omega)⟩
      by_cases e2 : j = i
      · rw [e2]; exact e
      · exact h j (by omega) (by omega)
    · rw [if_neg e]
      exact ⟨(fun h => by cases h), fun h => absurd (h i (Nat.le_refl _) (by omega)) e⟩
theorem sp_len {c : Nat → Nat} {w s n : Nat} (h : slen w ≠ n) : ¬ sp c w s n = true := by
  unfold sp; rw [if_neg h]; decide
theorem sp_3 {c : Nat → Nat} {w s : Nat} (hw : slen w = 3) : sp c w s 3 = true ↔ c s = wl w 0 ∧ c (s + 1) = wl w 1 ∧ c (s + 2) = wl w 2 := by
  unfold sp
  rw [if_pos hw, spf_iff]
  refine ⟨fun h => ⟨h 0 (by omega) (by omega), h 1 (by omega) (by omega), h 2 (by omega) (by omega)⟩, fun h j _ h2 => ?_⟩
  rcases (show j = 0 ∨ j = 1 ∨ j = 2 by omega) with rfl | rfl | rfl
  · exact h.1
  · exact h.2.1
  · exact h.2.2
theorem sp_4 {c : Nat → Nat} {w s : Nat} (hw : slen w = 4) : sp c w s 4 = true ↔ c s = wl w 0 ∧ c (s + 1) = wl w 1 ∧ c (s + 2) = wl w 2 ∧ c (s + 3) = wl w 3 := by
  unfold sp
  rw [if_pos hw, spf_iff]
  refine ⟨fun h => ⟨h 0 (by omega) (by omega), h 1 (by omega) (by omega), h 2 (by omega) (by omega), h 3 (by omega) (by omega)⟩, fun h j _ h2 => ?_⟩
  rcases (show j = 0 ∨ j = 1 ∨ j = 2 ∨ j = 3 by omega) with rfl | rfl | rfl | rfl
  · exact h.1
  · exact h.2.1
  · exact h.2.2.1
  · exact h.2.2.2
/-- the word's number is its code, or none -/
def WK (k : Nat) (v : Int64) : Prop := (4 ≤ k ∧ k ≤ 9 ∧ v = lN (wcode k)) ∨ (k = 0 ∧ ∀ j, 4 ≤ j → j ≤ 9 → v ≠ lN (wcode j))
theorem WK.none {x : Nat} (h : x < 2 ^ 31) (h4 : x ≠ 397703) (h5 : x ≠ 11806) (h6 : x ≠ 16922) (h7 : x ≠ 453774) (h8 : x ≠ 298288) (h9 : x ≠ 149099) : WK 0 (lN x) := by
  refine Or.inr ⟨rfl, fun j a b q => ?_⟩
  have hb : wcode j < 2 ^ 31 := wcode_lt j
  have := (lN_eq h hb).mp q
  rcases (show j = 4 ∨ j = 5 ∨ j = 6 ∨ j = 7 ∨ j = 8 ∨ j = 9 by omega) with rfl | rfl | rfl | rfl | rfl | rfl
  · exact h4 this
  · exact h5 this
  · exact h6 this
  · exact h7 this
  · exact h8 this
  · exact h9 this
theorem wd_0 {c : Nat → Nat} {s n : Nat} (h : n ≠ 3 ∧ n ≠ 4) : wd c s n = 0 := by
  have z : ∀ w, w < 6 → ¬ sp c w s n = true := fun w hw => sp_len (by have := slen_lt w hw; omega)
  unfold wd
  rw [if_neg (z 0 (by decide)), if_neg (z 1 (by decide)), if_neg (z 2 (by decide)), if_neg (z 3 (by decide)), if_neg (z 4 (by decide)), if_neg (z 5 (by decide))]
theorem word_3 {c : Nat → Nat} {s : Nat} (a1 : 97 ≤ c s ∧ c s ≤ 122) (a2 : 97 ≤ c (s + 1) ∧ c (s + 1) ≤ 122) (a3 : 97 ≤ c (s + 2) ∧ c (s + 2) ≤ 122) : WK (wd c s 3) (lN (27 * (27 * (27 * 0 + c s - 96) + c (s + 1) - 96) + c (s + 2) - 96)) := by
  have p1 : sp c 1 s 3 = true ↔ c s = 112 ∧ c (s + 1) = 101 ∧ c (s + 2) = 103 := sp_3 rfl
  have p2 : sp c 2 s 3 = true ↔ c s = 119 ∧ c (s + 1) = 101 ∧ c (s + 2) = 116 := sp_3 rfl
  unfold wd
  rw [if_neg (show ¬ sp c 0 s 3 = true from sp_len (by decide)), if_neg (show ¬ sp c 3 s 3 = true from sp_len (by decide)), if_neg (show ¬ sp c 4 s 3 = true from sp_len (by decide)), if_neg (show ¬ sp c 5 s 3 = true from sp_len (by decide))]
  by_cases e1 : sp c 1 s 3 = true
  · have := p1.mp e1
    rw [if_pos e1]
    exact Or.inl ⟨by decide, by decide, by rw [this.1, this.2.1, this.2.2]; rfl⟩
  · rw [if_neg e1]
    by_cases e2 : sp c 2 s 3 = true
    · have := p2.mp e2
      rw [if_pos e2]
      exact Or.inl ⟨by decide, by decide, by rw [this.1, this.2.1, this.2.2]; rfl⟩
    · rw [if_neg e2]
      rw [p1] at e1
      rw [p2] at e2
      generalize hx : 27 * (27 * (27 * 0 + c s - 96) + c (s + 1) - 96) + c (s + 2) - 96 = x
      refine WK.none (by omega) (by omega) (fun q => e1 ?_) (fun q => e2 ?_) (by omega) (by omega) (by omega)
      · omega
      · omega
theorem word_4 {c : Nat → Nat} {s : Nat} (a1 : 97 ≤ c s ∧ c s ≤ 122) (a2 : 97 ≤ c (s + 1) ∧ c (s + 1) ≤ 122) (a3 : 97 ≤ c (s + 2) ∧ c (s + 2) ≤ 122) (a4 : 97 ≤ c (s + 3) ∧ c (s + 3) ≤ 122) : WK (wd c s 4) (lN (27 * (27 * (27 * (27 * 0 + c s - 96) + c (s + 1) - 96) + c (s + 2) - 96) + c (s + 3) - 96)) := by
  have p0 : sp c 0 s 4 = true ↔ c s = 116 ∧ c (s + 1) = 101 ∧ c (s + 2) = 110 ∧ c (s + 3) = 116 := sp_4 rfl
  have p3 : sp c 3 s 4 = true ↔ c s = 119 ∧ c (s + 1) = 97 ∧ c (s + 2) = 108 ∧ c (s + 3) = 108 := sp_4 rfl
  have p4 : sp c 4 s 4 = true ↔ c s = 111 ∧ c (s + 1) = 100 ∧ c (s + 2) = 100 ∧ c (s + 3) = 115 := sp_4 rfl
  have p5 : sp c 5 s 4 = true ↔ c s = 103 ∧ c (s + 1) = 111 ∧ c (s + 2) = 110 ∧ c (s + 3) = 101 := sp_4 rfl
  unfold wd
  rw [if_neg (show ¬ sp c 1 s 4 = true from sp_len (by decide)), if_neg (show ¬ sp c 2 s 4 = true from sp_len (by decide))]
  by_cases e0 : sp c 0 s 4 = true
  · have := p0.mp e0
    rw [if_pos e0]
    exact Or.inl ⟨by decide, by decide, by rw [this.1, this.2.1, this.2.2.1, this.2.2.2]; rfl⟩
  · rw [if_neg e0]
    by_cases e3 : sp c 3 s 4 = true
    · have := p3.mp e3
      rw [if_pos e3]
      exact Or.inl ⟨by decide, by decide, by rw [this.1, this.2.1, this.2.2.1, this.2.2.2]; rfl⟩
    · rw [if_neg e3]
      by_cases e4 : sp c 4 s 4 = true
      · have := p4.mp e4
        rw [if_pos e4]
        exact Or.inl ⟨by decide, by decide, by rw [this.1, this.2.1, this.2.2.1, this.2.2.2]; rfl⟩
      · rw [if_neg e4]
        by_cases e5 : sp c 5 s 4 = true
        · have := p5.mp e5
          rw [if_pos e5]
          exact Or.inl ⟨by decide, by decide, by rw [this.1, this.2.1, this.2.2.1, this.2.2.2]; rfl⟩
        · rw [if_neg e5]
          rw [p0] at e0
          rw [p3] at e3
          rw [p4] at e4
          rw [p5] at e5
          generalize hx : 27 * (27 * (27 * (27 * 0 + c s - 96) + c (s + 1) - 96) + c (s + 2) - 96) + c (s + 3) - 96 = x
          refine WK.none (by omega) (fun q => e0 ?_) (by omega) (by omega) (fun q => e3 ?_) (fun q => e4 ?_) (fun q => e5 ?_)
          · omega
          · omega
          · omega
          · omega
theorem word_k {c : Nat → Nat} {s n : Nat} (h : ∀ j, j < n → 97 ≤ c (s + j) ∧ c (s + j) ≤ 122) (h1 : 1 ≤ n) : WK (wd c s n) (wvN c n s 0 (lN 0)) := by
  have a0 := h 0 h1
  by_cases n1 : n = 1
  · subst n1
    rw [wd_0 (by decide), wvN_s c 0 s 0 0 (by decide) a0.1 a0.2]
    have b0 : 97 ≤ c s ∧ c s ≤ 122 := a0
    exact WK.none (by omega) (by omega) (by omega) (by omega) (by omega) (by omega) (by omega)
  · have a1 := h 1 (by omega)
    by_cases n2 : n = 2
    · subst n2
      rw [wd_0 (by decide), wvN_s c 1 s 0 0 (by decide) a0.1 a0.2, wvN_s c 0 (s + 1) 1 _ (by decide) a1.1 a1.2]
      have b0 : 97 ≤ c s ∧ c s ≤ 122 := a0
      exact WK.none (by omega) (by omega) (by omega) (by omega) (by omega) (by omega) (by omega)
    · have a2 := h 2 (by omega)
      by_cases n3 : n = 3
      · subst n3
        rw [wvN_s c 2 s 0 0 (by decide) a0.1 a0.2, wvN_s c 1 (s + 1) 1 _ (by decide) a1.1 a1.2, wvN_s c 0 (s + 1 + 1) 2 _ (by decide) a2.1 a2.2]
        exact word_3 a0 a1 a2
      · have a3 := h 3 (by omega)
        by_cases n4 : n = 4
        · subst n4
          rw [wvN_s c 3 s 0 0 (by decide) a0.1 a0.2, wvN_s c 2 (s + 1) 1 _ (by decide) a1.1 a1.2, wvN_s c 1 (s + 1 + 1) 2 _ (by decide) a2.1 a2.2, wvN_s c 0 (s + 1 + 1 + 1) 3 _ (by decide) a3.1 a3.2]
          exact word_4 a0 a1 a2 a3
        · have a4 := h 4 (by omega)
          obtain ⟨m, rfl⟩ : ∃ m, n = m + 5 := ⟨n - 5, by omega⟩
          rw [wd_0 (by omega), wvN_s c (m + 4) s 0 0 (by decide) a0.1 a0.2, wvN_s c (m + 3) (s + 1) 1 _ (by decide) a1.1 a1.2, wvN_s c (m + 2) (s + 1 + 1) 2 _ (by decide) a2.1 a2.2, wvN_s c (m + 1) (s + 1 + 1 + 1) 3 _ (by decide) a3.1 a3.2, wvN_s c m (s + 1 + 1 + 1 + 1) 4 _ (by decide) a4.1 a4.2]
          have b0 : 97 ≤ c s ∧ c s ≤ 122 := a0
          have b2 : 97 ≤ c (s + 1 + 1) ∧ c (s + 1 + 1) ≤ 122 := a2
          have b3 : 97 ≤ c (s + 1 + 1 + 1) ∧ c (s + 1 + 1 + 1) ≤ 122 := a3
          have b4 : 97 ≤ c (s + 1 + 1 + 1 + 1) ∧ c (s + 1 + 1 + 1 + 1) ≤ 122 := a4
          cases m with
          | zero => exact WK.none (by omega) (by omega) (by omega) (by omega) (by omega) (by omega) (by omega)
          | succ m =>
            show WK 0 (wvN c m _ 6 (if 5 ≤ 5 then -1 else _))
            rw [if_pos (Nat.le_refl 5), wvN_m c m _ 6 (by decide)]
            refine Or.inr ⟨rfl, fun j p1 p2 q => ?_⟩
            rcases (show j = 4 ∨ j = 5 ∨ j = 6 ∨ j = 7 ∨ j = 8 ∨ j = 9 by omega) with rfl | rfl | rfl | rfl | rfl | rfl
            · exact absurd q (by decide)
            · exact absurd q (by decide)
            · exact absurd q (by decide)
            · exact absurd q (by decide)
            · exact absurd q (by decide)
            · exact absurd q (by decide)
