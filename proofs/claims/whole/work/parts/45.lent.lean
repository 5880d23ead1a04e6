/-! Pure part (16): lending. -/
/-- the depth each peg needs -/
def nd (t : Nat → Nat) (v s k : Nat) : Nat := de (hP t (t 1) k) (nP t (t 1) v s (t 3) k) 10 0
theorem nd_le (t : Nat → Nat) (v s k : Nat) : nd t v s k ≤ 10 := by
  have := (de_le (hP t (t 1) k) (nP t (t 1) v s (t 3) k) 10 0).2
  show de _ _ _ _ ≤ 10
  omega
def fN (w : Nat → Nat) : Nat → Nat → Nat → Nat
  | 0, _, a => a
  | d + 1, k, a => fN w d (k + 1) (a + w k)
def wAll (t : Nat → Nat) (k : Nat) : Nat := if (t 1).testBit k then t (13 + k) else 0
def wMany (t : Nat → Nat) (f : Nat → Nat) (k : Nat) : Nat := if (t 1).testBit k then t (13 + k) - f k else 0
def wFew (t : Nat → Nat) (f : Nat → Nat) (k : Nat) : Nat := if (t 1).testBit k then f k - t (13 + k) else 0
def balI (st : Nat) (f : Nat → Nat) (x : Nat) : Nat → Nat → Nat × Nat → Nat × Nat
  | 0, _, p => p
  | d + 1, k, p => balI st f x d (k + 1) (if st.testBit k = true ∧ f k = x ∧ x ≤ p.1 then (p.1 - x, p.2 + 1) else p)
def balO (st : Nat) (f : Nat → Nat) (n : Nat) : Nat → Nat → Nat × Nat → Nat × Nat
  | 0, _, p => p
  | d + 1, x, p => balO st f n d (x + 1) (balI st f x n 0 p)
theorem balI_le (st : Nat) (f : Nat → Nat) (x : Nat) : ∀ d k p, (balI st f x d k p).1 ≤ p.1 := by
  intro d
  induction d with
  | zero => intro k p; exact Nat.le_refl _
  | succ d ih =>
    intro k p
    refine Nat.le_trans (ih _ _) ?_
    split
    · exact Nat.sub_le _ _
    · exact Nat.le_refl _
theorem dif1 : ∀ a, a < 10 → ∀ b, b < 11 → (if nI 0 < nI a - nI b then nI a - nI b else nI 0) = nI (a - b) := by decide +kernel
theorem dif2 : ∀ a, a < 10 → ∀ b, b < 11 → (if nI 0 < nI b - nI a then nI b - nI a else nI 0) = nI (b - a) := by decide +kernel
theorem dif3 : ∀ a, a < 10 → ∀ b, b < 11 → (if nI a - nI b ≤ nI 0 then nI 0 else nI a - nI b) = nI (a - b) := by decide +kernel
theorem dif4 : ∀ a, a < 10 → ∀ b, b < 11 → (if nI 0 ≤ nI a - nI b then nI 0 else -(nI a - nI b)) = nI (b - a) := by decide +kernel
/-- the class having seen the needs -/
def SN (μ : Mem) (t : Nat → Nat) (f : Nat → Nat) : Prop := CF μ 1 t ∧ Wf t ∧ ∀ k, k < t 0 → μ.1 12 k = nI (f k)
theorem C_see {t : Nat → Nat} {v s : Nat} (hv : v < 8) (hs : s ≤ 61) (hn : 2 ≤ t 0 ∧ t 0 ≤ 8) : ∀ d, d < 1000 → ∀ (μ : Mem) k, GB μ t (t 1) → (∀ j, j < k → μ.1 12 j = nI (nd t v s j)) → k + d = t 0 → ∃ m, F_P_seeNeeds_2 μ (nI v) (nI s) (nI k) = some m ∧ SN m t (nd t v s) ∧ ∀ j, j ≠ 12 → m.1 j = μ.1 j := by
  refine fun d hd => iter_run (fun d (g : Mem → Int32 → Int32 → Int32 → Option Mem) => ∀ (μ : Mem) k, GB μ t (t 1) → (∀ j, j < k → μ.1 12 j = nI (nd t v s j)) → k + d = t 0 → ∃ m, g μ (nI v) (nI s) (nI k) = some m ∧ SN m t (nd t v s) ∧ ∀ j, j ≠ 12 → m.1 j = μ.1 j) ?_ ?_ NF d (NF_lt hd)
  · intro g μ k h hj hk
    unfold S_P_seeNeeds_2
    rw [GS.pegs h, if_pos ((nI_leI (by omega) (by omega)).mpr (by omega))]
    exact ⟨μ, rfl, ⟨h.1, h.2.1, fun j q => hj j (by omega)⟩, fun _ _ => rfl⟩
  · intro d g ih μ k h hj hk
    unfold S_P_seeNeeds_2
    have e : F_P_deepEnough μ (nI k) (nI 0) (nI (if (t 1).testBit k then pull t k v s 0 (t 3) else 0)) = some (nI (nd t v s k)) := C_deep h (by omega) (nP_le hs) 10 (by omega) 0 rfl
    rw [GS.pegs h, if_neg (fun q => by have := (nI_leI (by omega) (by omega)).mp q; omega), C_pullOn h (by omega) hv hs, bnd_s, lit 0, e, bnd_s, gd_nI (by omega) (by decide), nclamp (by omega), lit 1, nI_add]
    obtain ⟨m, e1, e2, e3⟩ := ih (stI μ 12 k (nI (nd t v s k))) (k + 1) (by
      obtain ⟨b1, b2, b3, b4, b5, b6, b7, b8, b9, b10⟩ := h
      exact ⟨b1.keep (fun j q r => stI_ne _ _ _ (by omega)), b2, b3, b4, b5, b6, by rw [stI_ne _ _ _ (by decide)]; exact b7, by rw [stI_ne _ _ _ (by decide)]; exact b8, by rw [stI_ne _ _ _ (by decide)]; exact b9, by rw [stI_ne _ _ _ (by decide)]; exact b10⟩) (fun j q => by
      rw [stI_same, upd_at]
      by_cases c : j = k
      · rw [if_pos c, c]
      · rw [if_neg c]; exact hj j (by omega)) (by omega)
    exact ⟨m, e1, e2, fun j q => by rw [e3 j q, stI_ne _ _ _ q]⟩
section LNT
variable {m : Mem} {t f : Nat → Nat}
theorem C_many (h : SN m t f) (hf : ∀ k, f k ≤ 10) : ∀ d, d < 1000 → ∀ k a, k + d = t 0 → F_P_inchesTooMany_4 m (nI a) (nI k) = some (nI (fN (wMany t f) d k a)) := by
  obtain ⟨h1, w, h2⟩ := h
  have hn : t 0 ≤ 8 := w.2.1
  refine fun d hd => iter_run (fun d (g : Mem → Int32 → Int32 → Option Int32) => ∀ k a, k + d = t 0 → g m (nI a) (nI k) = some (nI (fN (wMany t f) d k a))) ?_ ?_ NF d (NF_lt hd)
  · intro g k a hk
    unfold S_P_inchesTooMany_4
    rw [show m.1 1 0 = nI (t 0) from h1.1.1, if_pos ((nI_leI (by omega) (by omega)).mpr (by omega))]
    rfl
  · intro d g ih k a hk
    have hdep : t (13 + k) ≤ 9 := w.2.2.2.2.2.2.2.1 k (by omega)
    have hfk := hf k
    unfold S_P_inchesTooMany_4
    rw [show m.1 1 0 = nI (t 0) from h1.1.1, if_neg (fun q => by have := (nI_leI (by omega) (by omega)).mp q; omega), show m.1 1 3 = nI (t 1) from h1.1.2.2.2.1, hasT _ w.st256 _ (by omega), bnd_s, gd_nI (by omega) (by decide), gd_nI (by omega) (by decide), nclamp (by omega), show m.1 3 k = nI (t (13 + k)) from h1.2.2.1 k (by omega), h2 k (by omega)]
    simp only [lit]
    rw [dif1 _ (by omega) _ (by omega), nI_add, nI_add, nI_add, ih (k + 1) _ (by omega), ih (k + 1) _ (by omega)]
    show _ = some (nI (fN (wMany t f) d (k + 1) (a + wMany t f k)))
    unfold wMany
    cases (t 1).testBit k
    · rw [if_pos (by decide)]; rfl
    · rw [if_neg (by decide)]; rfl
theorem C_few (h : SN m t f) (hf : ∀ k, f k ≤ 10) : ∀ d, d < 1000 → ∀ k a, k + d = t 0 → F_P_inchesTooFew_4 m (nI a) (nI k) = some (nI (fN (wFew t f) d k a)) := by
  obtain ⟨h1, w, h2⟩ := h
  have hn : t 0 ≤ 8 := w.2.1
  refine fun d hd => iter_run (fun d (g : Mem → Int32 → Int32 → Option Int32) => ∀ k a, k + d = t 0 → g m (nI a) (nI k) = some (nI (fN (wFew t f) d k a))) ?_ ?_ NF d (NF_lt hd)
  · intro g k a hk
    unfold S_P_inchesTooFew_4
    rw [show m.1 1 0 = nI (t 0) from h1.1.1, if_pos ((nI_leI (by omega) (by omega)).mpr (by omega))]
    rfl
  · intro d g ih k a hk
    have hdep : t (13 + k) ≤ 9 := w.2.2.2.2.2.2.2.1 k (by omega)
    have hfk := hf k
    unfold S_P_inchesTooFew_4
    rw [show m.1 1 0 = nI (t 0) from h1.1.1, if_neg (fun q => by have := (nI_leI (by omega) (by omega)).mp q; omega), show m.1 1 3 = nI (t 1) from h1.1.2.2.2.1, hasT _ w.st256 _ (by omega), bnd_s, gd_nI (by omega) (by decide), gd_nI (by omega) (by decide), nclamp (by omega), show m.1 3 k = nI (t (13 + k)) from h1.2.2.1 k (by omega), h2 k (by omega)]
    simp only [lit]
    rw [dif2 _ (by omega) _ (by omega), nI_add, nI_add, nI_add, ih (k + 1) _ (by omega), ih (k + 1) _ (by omega)]
    show _ = some (nI (fN (wFew t f) d (k + 1) (a + wFew t f k)))
    unfold wFew
    cases (t 1).testBit k
    · rw [if_pos (by decide)]; rfl
    · rw [if_neg (by decide)]; rfl
theorem C_all (h : SN m t f) : ∀ d, d < 1000 → ∀ k a, k + d = t 0 → F_P_inchesOfAll_4 m (nI a) (nI k) = some (nI (fN (wAll t) d k a)) := by
  obtain ⟨h1, w, h2⟩ := h
  have hn : t 0 ≤ 8 := w.2.1
  refine fun d hd => iter_run (fun d (g : Mem → Int32 → Int32 → Option Int32) => ∀ k a, k + d = t 0 → g m (nI a) (nI k) = some (nI (fN (wAll t) d k a))) ?_ ?_ NF d (NF_lt hd)
  · intro g k a hk
    unfold S_P_inchesOfAll_4
    rw [show m.1 1 0 = nI (t 0) from h1.1.1, if_pos ((nI_leI (by omega) (by omega)).mpr (by omega))]
    rfl
  · intro d g ih k a hk
    unfold S_P_inchesOfAll_4
    rw [show m.1 1 0 = nI (t 0) from h1.1.1, if_neg (fun q => by have := (nI_leI (by omega) (by omega)).mp q; omega), show m.1 1 3 = nI (t 1) from h1.1.2.2.2.1, hasT _ w.st256 _ (by omega), bnd_s, gd_nI (by omega) (by decide), nclamp (by omega), show m.1 3 k = nI (t (13 + k)) from h1.2.2.1 k (by omega)]
    simp only [lit]
    rw [nI_add, nI_add, nI_add, ih (k + 1) _ (by omega), ih (k + 1) _ (by omega)]
    show _ = some (nI (fN (wAll t) d (k + 1) (a + wAll t k)))
    unfold wAll
    cases (t 1).testBit k
    · rw [if_pos (by decide)]; rfl
    · rw [if_neg (by decide)]; rfl
theorem C_balI (h : SN m t f) (hf : ∀ k, f k ≤ 10) {x : Nat} (hx : x ≤ 10) (K : Mem → Int32 → Int32 → Int32 → Option Int32) : ∀ d, d < 1000 → ∀ k (p : Nat × Nat), k + d = t 0 → p.1 ≤ 1000 → F_P_balance_18 K m (nI p.1) (nI p.2) (nI x) (nI k) = K m (nI (balI (t 1) f x d k p).1) (nI (balI (t 1) f x d k p).2) (nI (x + 1)) := by
  obtain ⟨h1, w, h2⟩ := h
  have hn : t 0 ≤ 8 := w.2.1
  refine fun d hd => iter_run (fun d (g : Mem → Int32 → Int32 → Int32 → Int32 → Option Int32) => ∀ k (p : Nat × Nat), k + d = t 0 → p.1 ≤ 1000 → g m (nI p.1) (nI p.2) (nI x) (nI k) = K m (nI (balI (t 1) f x d k p).1) (nI (balI (t 1) f x d k p).2) (nI (x + 1))) ?_ ?_ NF d (NF_lt hd)
  · intro g k p hk hp
    unfold S_P_balance_18
    rw [show m.1 1 0 = nI (t 0) from h1.1.1, if_pos ((nI_leI (by omega) (by omega)).mpr (by omega)), lit 1, nI_add]
    rfl
  · intro d g ih k p hk hp
    have hfk := hf k
    unfold S_P_balance_18
    rw [show m.1 1 0 = nI (t 0) from h1.1.1, if_neg (fun q => by have := (nI_leI (by omega) (by omega)).mp q; omega), show m.1 1 3 = nI (t 1) from h1.1.2.2.2.1, hasT _ w.st256 _ (by omega), bnd_s, gd_nI (by omega) (by decide), nclamp (by omega), h2 k (by omega), lit 1, nI_add, nI_add]
    show _ = K m (nI (balI (t 1) f x d (k + 1) (if (t 1).testBit k = true ∧ f k = x ∧ x ≤ p.1 then (p.1 - x, p.2 + 1) else p)).1) (nI (balI (t 1) f x d (k + 1) (if (t 1).testBit k = true ∧ f k = x ∧ x ≤ p.1 then (p.1 - x, p.2 + 1) else p)).2) (nI (x + 1))
    have stay := ih (k + 1) p (by omega) hp
    by_cases c : (t 1).testBit k = true ∧ f k = x ∧ x ≤ p.1
    · rw [if_pos c, c.1, if_neg (by decide), if_pos (by rw [c.2.1]), if_neg (fun q => by have := (nI_ltI (by omega) (by omega)).mp q; omega), nsub c.2.2]
      exact ih (k + 1) (p.1 - x, p.2 + 1) (by omega) (by show p.1 - x ≤ 1000; omega)
    · rw [if_neg c]
      cases hb : (t 1).testBit k with
      | false => rw [if_pos (by decide)]; exact stay
      | true =>
        rw [if_neg (by decide)]
        by_cases c2 : f k = x
        · rw [if_pos (by rw [c2]), if_pos ((nI_ltI (by omega) (by omega)).mpr (by
            have : ¬ x ≤ p.1 := fun q => c ⟨hb, c2, q⟩
            omega))]
          exact stay
        · rw [if_neg (fun q => c2 ((nI_eq (by omega) (by omega)).mp q))]; exact stay
theorem C_balO (h : SN m t f) (hf : ∀ k, f k ≤ 10) : ∀ d, d < 1000 → ∀ x (p : Nat × Nat), x + d = 10 → p.1 ≤ 1000 → F_P_balance_9 m (nI p.1) (nI p.2) (nI x) = some (nI (balO (t 1) f (t 0) d x p).2) := by
  have hn : t 0 ≤ 8 := h.2.1.2.1
  refine fun d hd => iter_run (fun d (g : Mem → Int32 → Int32 → Int32 → Option Int32) => ∀ x (p : Nat × Nat), x + d = 10 → p.1 ≤ 1000 → g m (nI p.1) (nI p.2) (nI x) = some (nI (balO (t 1) f (t 0) d x p).2)) ?_ ?_ NF d (NF_lt hd)
  · intro g x p hx hp
    unfold S_P_balance_9
    rw [lit 9, if_pos ((nI_ltI (by omega) (by omega)).mpr (by omega))]
    rfl
  · intro d g ih x p hx hp
    unfold S_P_balance_9
    rw [lit 9, lit 0, if_neg (fun q => by have := (nI_ltI (by omega) (by omega)).mp q; omega), C_balI h hf (by omega) g (t 0) (by omega) 0 p (by omega) hp]
    exact ih (x + 1) _ (by omega) (Nat.le_trans (balI_le _ _ _ _ _ _) hp)
end LNT
