/-! Pure part (13): digest, images. -/
def dv (f : Nat → Int64 → Int64) : Nat → Nat → Int64 → Int64
  | _, 0, z => z
  | i, d + 1, z => dv f (i + 1) d (f i z)
def dg3 (t : Nat → Nat) (i : Nat) (z : Int64) : Int64 := 31 * z + (nI (t (29 + i))).toInt64
def dg2 (t : Nat → Nat) (i : Nat) (z : Int64) : Int64 := 31 * (31 * (31 * (31 * z + (nI (t (5 + i))).toInt64) + (nI (t (13 + i))).toInt64) + (nI (t (21 + i))).toInt64) + (nI ((t 1).testBit i).toNat).toInt64
def dg1 (c : Nat → Int32) (i : Nat) (z : Int64) : Int64 := 31 * z + (c i).toInt64
def dE3 (t : Nat → Nat) (A B : Int64) (z : Int64) : Int64 := 31 * (31 * z + A) + B
def dE2 (t : Nat → Nat) (A B : Int64) (z : Int64) : Int64 := dE3 t A B (dv (dg3 t) 0 8 z)
def dE1 (t : Nat → Nat) (A B : Int64) (z : Int64) : Int64 := dE2 t A B (dv (dg2 t) 0 (t 0) z)
section DIG
variable {μ ν : Mem} {t : Nat → Nat} {A B : Int64} {c : Nat → Int32}
theorem C_dig3 (h : CF μ 1 t) (hA : (μ.1 0 8).toInt64 = A) (hB : (μ.1 0 9).toInt64 = B) : ∀ d, d < 1000 → ∀ (i : Nat) (z : Int64), i + d = 8 → F_T_digest_129 μ z (nI i) = some (dE3 t A B (dv (dg3 t) i d z)) := by
  refine fun d hd => iter_run (fun d (g : Mem → Int64 → Int32 → Option Int64) => ∀ (i : Nat) (z : Int64), i + d = 8 → g μ z (nI i) = some (dE3 t A B (dv (dg3 t) i d z))) ?_ ?_ NF d (NF_lt hd)
  · intro g i z hi
    unfold S_T_digest_129
    rw [lit 8, if_pos ((nI_leI (by omega) (by omega)).mpr (by omega)), hA, hB]
    rfl
  · intro d g ih i z hi
    unfold S_T_digest_129
    rw [lit 8, if_neg (fun q => by have := (nI_leI (by omega) (by omega)).mp q; omega), gd_nI (by omega) (by decide), nclamp (by omega), lit 1, nI_add, show μ.1 5 i = nI (t (29 + i)) from h.2.2.2.2.1 i (by omega)]
    exact ih (i + 1) _ (by omega)
theorem M_dig3 (h : MS ν t) (hA : ν.2 17 = A) (hB : ν.2 18 = B) : ∀ d, d < 1000 → ∀ (i : Nat) (z : Int64), i + d = 8 → F_M_digest_124 ν z (nI i) = some (dE3 t A B (dv (dg3 t) i d z), ν) := by
  refine fun d hd => iter_run (fun d (g : Mem → Int64 → Int32 → Option (Int64 × Mem)) => ∀ (i : Nat) (z : Int64), i + d = 8 → g ν z (nI i) = some (dE3 t A B (dv (dg3 t) i d z), ν)) ?_ ?_ NF d (NF_lt hd)
  · intro g i z hi
    unfold S_M_digest_124
    rw [lit 8, if_pos ((nI_leI (by omega) (by omega)).mpr (by omega)), hA, hB]
    rfl
  · intro d g ih i z hi
    unfold S_M_digest_124
    rw [lit 8, if_neg (fun q => by have := (nI_leI (by omega) (by omega)).mp q; omega), lit 29, nI_add, gd_nI (by omega) (by decide), nclamp (by omega), lit 1, nI_add, h.at (29 + i) (by omega)]
    exact ih (i + 1) _ (by omega)
theorem C_dig2 (h : CF μ 1 t) (w : Wf t) (hA : (μ.1 0 8).toInt64 = A) (hB : (μ.1 0 9).toInt64 = B) : ∀ d, d < 1000 → ∀ (i : Nat) (z : Int64), i + d = t 0 → F_T_digest_32 μ z (nI i) = some (dE2 t A B (dv (dg2 t) i d z)) := by
  have hn : t 0 ≤ 8 := w.2.1
  refine fun d hd => iter_run (fun d (g : Mem → Int64 → Int32 → Option Int64) => ∀ (i : Nat) (z : Int64), i + d = t 0 → g μ z (nI i) = some (dE2 t A B (dv (dg2 t) i d z))) ?_ ?_ NF d (NF_lt hd)
  · intro g i z hi
    unfold S_T_digest_32
    rw [show μ.1 1 0 = nI (t 0) from h.1.1, if_pos ((nI_leI (by omega) (by omega)).mpr (by omega))]
    exact C_dig3 h hA hB 8 (by decide) 0 z rfl
  · intro d g ih i z hi
    unfold S_T_digest_32
    rw [show μ.1 1 0 = nI (t 0) from h.1.1, if_neg (fun q => by have := (nI_leI (by omega) (by omega)).mp q; omega), gd_nI (by omega) (by decide), gd_nI (by omega) (by decide), gd_nI (by omega) (by decide), nclamp (by omega), show (1 : Int32) = nI 1 from lit 1, nI_add, show μ.1 2 i = nI (t (5 + i)) from h.2.1 i (by omega), show μ.1 3 i = nI (t (13 + i)) from h.2.2.1 i (by omega), show μ.1 4 i = nI (t (21 + i)) from h.2.2.2.1 i (by omega), show μ.1 1 3 = nI (t 1) from h.1.2.2.2.1, hasT _ w.st256 _ (by omega), bnd_s]
    have key := ih (i + 1) (dg2 t i z) (by omega)
    unfold dg2 at key
    show _ = some (dE2 t A B (dv (dg2 t) (i + 1) d (dg2 t i z)))
    unfold dg2
    cases hq : (t 1).testBit i
    · rw [hq] at key
      rw [if_pos (by decide)]
      exact key
    · rw [hq] at key
      rw [if_neg (by decide)]
      exact key
theorem M_dig2 (h : MS ν t) (hA : ν.2 17 = A) (hB : ν.2 18 = B) : ∀ d, d < 1000 → ∀ (i : Nat) (z : Int64), i + d = t 0 → F_M_digest_38 ν z (nI i) = some (dE2 t A B (dv (dg2 t) i d z), ν) := by
  have hn := h.n2
  refine fun d hd => iter_run (fun d (g : Mem → Int64 → Int32 → Option (Int64 × Mem)) => ∀ (i : Nat) (z : Int64), i + d = t 0 → g ν z (nI i) = some (dE2 t A B (dv (dg2 t) i d z), ν)) ?_ ?_ NF d (NF_lt hd)
  · intro g i z hi
    unfold S_M_digest_38
    rw [gd_t (by decide), show (0 : Int32).toNatClampNeg = 0 from rfl, h.n, if_pos ((nI_leI (by omega) (by omega)).mpr (by omega))]
    exact M_dig3 h hA hB 8 (by decide) 0 z rfl
  · intro d g ih i z hi
    unfold S_M_digest_38
    rw [gd_t (show inb 0 47 = true by decide), show (0 : Int32).toNatClampNeg = 0 from rfl, h.n, if_neg (fun q => by have := (nI_leI (by omega) (by omega)).mp q; omega), lit 5, lit 13, lit 21, nI_add, nI_add, nI_add, gd_nI (by omega) (by decide), gd_nI (by omega) (by decide), gd_nI (by omega) (by decide), gd_t (show inb 1 47 = true by decide), nclamp (by omega), nclamp (by omega), nclamp (by omega), show (1 : Int32).toNatClampNeg = 1 from rfl, h.at (5 + i) (by omega), h.at (13 + i) (by omega), h.at (21 + i) (by omega), h.at 1 (by decide), shrM _ h.2.st256 _ (by omega), lit 1, nI_add]
    exact ih (i + 1) _ (by omega)
theorem C_dig1 (h : CF μ 1 t) (w : Wf t) (hA : (μ.1 0 8).toInt64 = A) (hB : (μ.1 0 9).toInt64 = B) (hc : ∀ i, i ≤ 5 → F_T_counted μ (nI i) = some (c i)) : ∀ d, d < 1000 → ∀ (i : Nat) (z : Int64), i + d = 6 → F_T_digest_6 μ z (nI i) = some (dE1 t A B (dv (dg1 c) i d z)) := by
  have hn : t 0 ≤ 8 := w.2.1
  refine fun d hd => iter_run (fun d (g : Mem → Int64 → Int32 → Option Int64) => ∀ (i : Nat) (z : Int64), i + d = 6 → g μ z (nI i) = some (dE1 t A B (dv (dg1 c) i d z))) ?_ ?_ NF d (NF_lt hd)
  · intro g i z hi
    unfold S_T_digest_6
    rw [lit 5, if_pos ((nI_ltI (by omega) (by omega)).mpr (by omega))]
    exact C_dig2 h w hA hB (t 0) (by omega) 0 z (by omega)
  · intro d g ih i z hi
    unfold S_T_digest_6
    rw [lit 5, if_neg (fun q => by have := (nI_ltI (by omega) (by omega)).mp q; omega), hc i (by omega), bnd_s, lit 1, nI_add]
    exact ih (i + 1) _ (by omega)
theorem M_dig1 (h : MS ν t) (hA : ν.2 17 = A) (hB : ν.2 18 = B) (hc : ∀ i, i ≤ 5 → F_M_countOf ν (nI i) = some (c i)) : ∀ d, d < 1000 → ∀ (i : Nat) (z : Int64), i + d = 6 → F_M_digest_11 ν z (nI i) = some (dE1 t A B (dv (dg1 c) i d z), ν) := by
  have hn := h.n2
  refine fun d hd => iter_run (fun d (g : Mem → Int64 → Int32 → Option (Int64 × Mem)) => ∀ (i : Nat) (z : Int64), i + d = 6 → g ν z (nI i) = some (dE1 t A B (dv (dg1 c) i d z), ν)) ?_ ?_ NF d (NF_lt hd)
  · intro g i z hi
    unfold S_M_digest_11
    rw [lit 6, if_pos ((nI_leI (by omega) (by omega)).mpr (by omega))]
    exact M_dig2 h hA hB (t 0) (by omega) 0 z (by omega)
  · intro d g ih i z hi
    unfold S_M_digest_11
    rw [lit 6, if_neg (fun q => by have := (nI_leI (by omega) (by omega)).mp q; omega), hc i (by omega), bnd_s, lit 1, nI_add]
    exact ih (i + 1) _ (by omega)
end DIG
theorem ok_digest {μ ν : Mem} (h : Rel μ ν) : okD Rel μ (F_T_digest μ) (F_M_digest ν) := by
  obtain ⟨t, f1, f2, f3⟩ := h.1
  obtain ⟨r1, r2⟩ := h.2.2.2.1
  have hm : MS (stI ν 0 0 0) t := start_ms ⟨f3, f1⟩
  have hc : ∃ c : Nat → Int32, ∀ i, i ≤ 5 → F_T_counted μ (nI i) = some (c i) ∧ F_M_countOf (stI ν 0 0 0) (nI i) = some (c i) := by
    refine ⟨fun i => (F_T_counted μ (nI i)).getD 0, fun i hi => ?_⟩
    obtain ⟨r, a, b⟩ := counted h hi
    show F_T_counted μ (nI i) = some ((F_T_counted μ (nI i)).getD 0) ∧ F_M_countOf (stI ν 0 0 0) (nI i) = some ((F_T_counted μ (nI i)).getD 0)
    rw [a, b]; exact ⟨rfl, rfl⟩
  obtain ⟨c, hc⟩ := hc
  exact ⟨_, _, C_dig1 f2 f1 r1 r2 (fun i hi => (hc i hi).1) 6 (by decide) 0 883 rfl, M_dig1 hm rfl rfl (fun i hi => (hc i hi).2) 6 (by decide) 0 883 rfl, h.same (SC.rf μ) (SM.st0 ν)⟩
/-! images -/
theorem two_lo (b d : Nat) (μ : Mem) {k : Nat} (h : k < 6) : (two b d μ).1 k = μ.1 (b + k) := by
  show cond (Nat.blt k 6) _ _ = _
  rw [show Nat.blt k 6 = true from Nat.ble_eq.mpr (by omega)]; rfl
theorem two_hi (b d : Nat) (μ : Mem) {k : Nat} (h : 6 ≤ k) : (two b d μ).1 k = μ.1 (d + (k - 6)) := by
  show cond (Nat.blt k 6) _ _ = _
  rw [show Nat.blt k 6 = false from by rw [Bool.eq_false_iff]; intro q; have : k + 1 ≤ 6 := Nat.ble_eq.mp q; omega]; rfl
theorem CF.two {μ : Mem} {b d : Nat} {t : Nat → Nat} (h : CF μ d t) : CF (two b d μ) 6 t := by
  obtain ⟨a, b1, b2, b3, b4, b5⟩ := h
  refine ⟨by rw [two_hi _ _ _ (by decide)]; exact a, fun k q => ?_, fun k q => ?_, fun k q => ?_, fun k q => ?_, fun k q => ?_⟩
  · rw [two_hi _ _ _ (by decide)]; exact b1 k q
  · rw [two_hi _ _ _ (by decide)]; exact b2 k q
  · rw [two_hi _ _ _ (by decide)]; exact b3 k q
  · rw [two_hi _ _ _ (by decide)]; exact b4 k q
  · rw [two_hi _ _ _ (by decide)]; exact b5 k q
theorem C_become {φ : Mem} {t : Nat → Nat} (h : CF φ 6 t) (h10 : t 4 ≤ 10) : ∃ φ1, F_F_become φ = some φ1 ∧ CF φ1 0 t ∧ ∀ k, 6 ≤ k → φ1.1 k = φ.1 k := by
  obtain ⟨⟨a1, a2, a3, a4, a5⟩, b1, b2, b3, b4, b5⟩ := h
  have cp : ∀ (f g : Nat → Int32) (n k : Nat), k < n → va_cpy f g 0 0 n k = f k := by
    intro f g n k hk
    unfold va_cpy
    rw [if_pos (by omega)]
    congr 1; omega
  have e4 : ∀ (μ : Mem) (f1 f2 f3 f4 f5 : Nat → Int32), (stR (stR (stR (stR (stR μ 1 f1) 2 f2) 3 f3) 4 f4) 5 f5).1 0 = μ.1 0 := fun _ _ _ _ _ _ => rfl
  refine ⟨_, rfl, ⟨?_, fun k q => (cp _ _ _ _ q).trans (b1 k q), fun k q => (cp _ _ _ _ q).trans (b2 k q), fun k q => (cp _ _ _ _ q).trans (b3 k q), fun k q => (cp _ _ _ _ q).trans (b4 k q), fun k q => (cp _ _ _ _ (by omega)).trans (b5 k q)⟩, fun k q => ?_⟩
  · rw [e4]; exact ⟨a1, a2, a3, a4, a5⟩
  · rw [stR_row, if_neg (by omega), stR_row, if_neg (by omega), stR_row, if_neg (by omega), stR_row, if_neg (by omega), stR_row, if_neg (by omega), stI_ne _ _ _ (by omega), stI_ne _ _ _ (by omega), stI_ne _ _ _ (by omega), stI_ne _ _ _ (by omega), stI_ne _ _ _ (by omega)]
/-- putting back what was read changes nothing -/
theorem put_same {μ φ : Mem} {d b : Nat} (h : ∀ k, 6 ≤ k → φ.1 k = (two b d μ).1 k) : ∀ k, (put6 d 6 μ φ).1 k = μ.1 k := by
  intro k
  by_cases q : d ≤ k ∧ k < d + 6
  · obtain ⟨i, rfl⟩ : ∃ i, k = d + i := ⟨k - d, by omega⟩
    rw [put6_in d 6 μ φ (by omega), h _ (by omega), two_hi _ _ _ (by omega)]
    congr 1
  · rw [put6_out d 6 μ φ (by omega)]
theorem C_copy {μ : Mem} {t : Nat → Nat} {b d : Nat} (h : CF μ d t) (h10 : t 4 ≤ 10) : ∃ m, F_F_become (two b d μ) = some m ∧ CF (put6 b 0 (put6 d 6 μ m) m) b t ∧ ∀ k, (k < b ∨ b + 6 ≤ k) → (put6 b 0 (put6 d 6 μ m) m).1 k = μ.1 k := by
  obtain ⟨m, e1, e2, e3⟩ := C_become (h.two (b := b)) h10
  exact ⟨m, e1, e2.put, fun k q => by rw [put6_out _ _ _ _ q]; exact put_same e3 k⟩
theorem bool1 : vp_nar .boolean 1 = nI 1 := by decide
theorem M_img {t : Nat → Nat} {i : Nat} (hi : i < 2) : ∀ d, d < 1000 → ∀ (ν : Mem) (j : Nat), j + d = 47 → MF (ν.1 2) t → (∀ l, l < j → ν.1 4 (47 * i + l) = nI (t l)) → ∃ ν1, F_M_image_22 ν (nI i) (nI j) = some (1, ν1) ∧ (∀ l, l < 47 → ν1.1 4 (47 * i + l) = nI (t l)) ∧ (∀ l, (l < 47 * i ∨ 47 * i + 47 ≤ l) → ν1.1 4 l = ν.1 4 l) ∧ ν1.1 5 = upd (ν.1 5) i (nI 1) ∧ (∀ k, k ≠ 4 → k ≠ 5 → ν1.1 k = ν.1 k) ∧ ν1.2 = ν.2 := by
  refine fun d hd => iter_run (fun d (g : Mem → Int32 → Int32 → Option (Int32 × Mem)) => ∀ (ν : Mem) (j : Nat), j + d = 47 → MF (ν.1 2) t → (∀ l, l < j → ν.1 4 (47 * i + l) = nI (t l)) → ∃ ν1, g ν (nI i) (nI j) = some (1, ν1) ∧ (∀ l, l < 47 → ν1.1 4 (47 * i + l) = nI (t l)) ∧ (∀ l, (l < 47 * i ∨ 47 * i + 47 ≤ l) → ν1.1 4 l = ν.1 4 l) ∧ ν1.1 5 = upd (ν.1 5) i (nI 1) ∧ (∀ k, k ≠ 4 → k ≠ 5 → ν1.1 k = ν.1 k) ∧ ν1.2 = ν.2) ?_ ?_ NF d (NF_lt hd)
  · intro g ν j hj hf hl
    unfold S_M_image_22
    rw [lit 47, if_pos ((nI_leI (by omega) (by omega)).mpr (by omega)), gd_nI hi (by decide), nclamp (by omega), bool1]
    refine ⟨_, rfl, fun l q => ?_, fun l q => ?_, ?_, fun k q r => stI_ne _ _ _ r, rfl⟩
    · rw [stI_ne _ _ _ (by decide)]; exact hl l (by omega)
    · rw [stI_ne _ _ _ (by decide)]
    · rw [stI_same]
  · intro d g ih ν j hj hf hl
    unfold S_M_image_22
    rw [lit 47, if_neg (fun q => by have := (nI_leI (by omega) (by omega)).mp q; omega), nmul, nI_add, gd_nI (by omega) (by decide), gd_nI (by omega) (by decide), nclamp (by omega), nclamp (by omega), hf j (by omega), show (1 : Int32) = nI 1 from lit 1, nI_add]
    obtain ⟨ν1, e1, e2, e3, e4, e5, e6⟩ := ih (stI ν 4 (47 * i + j) (nI (t j))) (j + 1) (by omega) (by rw [stI_ne _ _ _ (by decide)]; exact hf) (fun l q => by
      rw [stI_same, upd_at]
      by_cases c : l = j
      · rw [if_pos (by omega), c]
      · rw [if_neg (by omega)]; exact hl l (by omega))
    refine ⟨ν1, e1, e2, fun l q => ?_, by rw [e4, stI_ne _ _ _ (by decide)], fun k q r => by rw [e5 k q r, stI_ne _ _ _ q], e6⟩
    rw [e3 l q, stI_same, upd_ne _ _ (by omega)]
theorem M_frm {t : Nat → Nat} {i : Nat} (hi : i < 2) : ∀ d, d < 1000 → ∀ (ν : Mem) (j : Nat), j + d = 47 → (∀ l, l < 47 → ν.1 4 (47 * i + l) = nI (t l)) → (∀ l, l < j → ν.1 2 l = nI (t l)) → ∃ ν1, F_M_from_36 ν (nI i) (nI j) = some (1, ν1) ∧ MF (ν1.1 2) t ∧ (∀ k, k ≠ 2 → ν1.1 k = ν.1 k) ∧ ν1.2 = ν.2 := by
  refine fun d hd => iter_run (fun d (g : Mem → Int32 → Int32 → Option (Int32 × Mem)) => ∀ (ν : Mem) (j : Nat), j + d = 47 → (∀ l, l < 47 → ν.1 4 (47 * i + l) = nI (t l)) → (∀ l, l < j → ν.1 2 l = nI (t l)) → ∃ ν1, g ν (nI i) (nI j) = some (1, ν1) ∧ MF (ν1.1 2) t ∧ (∀ k, k ≠ 2 → ν1.1 k = ν.1 k) ∧ ν1.2 = ν.2) ?_ ?_ NF d (NF_lt hd)
  · intro g ν j hj hf hl
    unfold S_M_from_36
    rw [lit 47, if_pos ((nI_leI (by omega) (by omega)).mpr (by omega))]
    exact ⟨_, rfl, fun l q => hl l (by omega), fun _ _ => rfl, rfl⟩
  · intro d g ih ν j hj hf hl
    unfold S_M_from_36
    rw [lit 47, if_neg (fun q => by have := (nI_leI (by omega) (by omega)).mp q; omega), nmul, nI_add, gd_nI (by omega) (by decide), gd_nI (by omega) (by decide), nclamp (by omega), nclamp (by omega), hf j (by omega), show (1 : Int32) = nI 1 from lit 1, nI_add]
    obtain ⟨ν1, e1, e2, e3, e4⟩ := ih (stI ν 2 j (nI (t j))) (j + 1) (by omega) (by rw [stI_ne _ _ _ (by decide)]; exact hf) (fun l q => by
      rw [stI_same, upd_at]
      by_cases c : l = j
      · rw [if_pos c, c]
      · rw [if_neg c]; exact hl l (by omega))
    exact ⟨ν1, e1, e2, fun k q => by rw [e3 k q, stI_ne _ _ _ q], e4⟩
theorem img_fin {μ ν ν1 m : Mem} {t : Nat → Nat} {i b : Nat} (hi : i < 2) (hb : b = 23 + 6 * i) (h : Rel μ ν) (f1 : Wf t) (f2 : CF μ 1 t) (f3 : MF (ν.1 2) t) (q2 : ∀ l, l < 47 → ν1.1 4 (47 * i + l) = nI (t l)) (q3 : ∀ l, (l < 47 * i ∨ 47 * i + 47 ≤ l) → ν1.1 4 l = (stI ν 0 0 0).1 4 l) (q4 : ν1.1 5 = upd ((stI ν 0 0 0).1 5) i (nI 1)) (q5 : ∀ k, k ≠ 4 → k ≠ 5 → ν1.1 k = (stI ν 0 0 0).1 k) (q6 : ν1.2 = (stI ν 0 0 0).2) (c2 : CF (put6 b 0 (put6 1 6 μ m) m) b t) (c3 : ∀ k, (k < b ∨ b + 6 ≤ k) → (put6 b 0 (put6 1 6 μ m) m).1 k = μ.1 k) : Rel (stI (put6 b 0 (put6 1 6 μ m) m) 35 i (nI 1)) ν1 := by
  subst hb
  obtain ⟨_, s, tx, fr, im⟩ := h
  refine ⟨⟨t, f1, f2.keep (fun k q r => ?_), ?_⟩, ?_, tx.same ?_ ?_ ?_ ?_, ?_, fun j hj => ?_⟩
  · rw [stI_ne _ _ _ (by omega), c3 k (by omega)]
  · rw [q5 2 (by decide) (by decide), stI_ne _ _ _ (by decide)]; exact f3
  · unfold Rst; rw [stI_ne _ _ _ (by decide), c3 0 (by omega), q5 1 (by decide) (by decide), stI_ne _ _ _ (by decide)]; exact s
  · rw [stI_ne _ _ _ (by decide), c3 0 (by omega)]
  · rw [stI_ne _ _ _ (by decide), c3 13 (by omega)]
  · rw [q5 0 (by decide) (by decide), stI_same, upd_ne _ _ (by decide)]
  · rw [q5 6 (by decide) (by decide), stI_ne _ _ _ (by decide)]
  · unfold Rfr; rw [stI_ne _ _ _ (by decide), c3 0 (by omega), q6]; exact fr
  · rw [stI_same, upd_at, c3 35 (by omega), q4, upd_at]
    by_cases cj : j = i
    · subst cj
      rw [if_pos rfl, if_pos rfl]
      exact ⟨rfl, Or.inr ⟨rfl, t, f1, c2.keep (fun k q r => stI_ne _ _ _ (by omega)), q2⟩⟩
    · rw [if_neg cj, if_neg cj]
      obtain ⟨r1, r2⟩ := im j hj
      rw [stI_ne _ _ _ (by decide)]
      refine ⟨r1, ?_⟩
      rcases r2 with r2 | ⟨r2, t', r3, r4, r5⟩
      · exact Or.inl r2
      · refine Or.inr ⟨r2, t', r3, r4.keep (fun k q r => by rw [stI_ne _ _ _ (by omega), c3 k (by omega)]), fun l hl => ?_⟩
        rw [q3 _ (by omega), stI_ne _ _ _ (by decide)]; exact r5 l hl
theorem C_image0 {μ m : Mem} (c1 : F_F_become (two 23 1 μ) = some m) (h : F_T_within (nI 0) 0 (2 - 1) = some (nI 1)) : F_T_image μ (nI 0) = some (1, stI (put6 23 0 (put6 1 6 μ m) m) 35 0 (nI 1)) := by
  unfold F_T_image
  rw [h, bnd_s, br1, if_pos (lit 0).symm, c1, bnd_s, gd_nI (by decide) (by decide), nclamp (by decide), bool1]
theorem C_image1 {μ m : Mem} (c1 : F_F_become (two 29 1 μ) = some m) (h : F_T_within (nI 1) 0 (2 - 1) = some (nI 1)) : F_T_image μ (nI 1) = some (1, stI (put6 29 0 (put6 1 6 μ m) m) 35 1 (nI 1)) := by
  unfold F_T_image
  rw [h, bnd_s, br1, if_neg (fun q => absurd (q.trans (lit 0)) n10), if_pos (lit 1).symm, c1, bnd_s, gd_nI (by decide) (by decide), nclamp (by decide), bool1]
theorem ok_image {μ ν : Mem} (h : Rel μ ν) (x : Int32) : okI Rel (F_T_image μ x) (F_M_image ν x) := by
  obtain ⟨t, f1, f2, f3⟩ := h.1
  have h10 : t 4 ≤ 10 := f1.2.2.2.2.2.1
  rcases dich x 0 1 (by decide) (by decide) with ⟨i, _, hi, e, h1, h2⟩ | ⟨h1, h2⟩
  · obtain ⟨ν1, q1, q2, q3, q4, q5, q6⟩ := M_img (t := t) (i := i) (by omega) 47 (by decide) (stI ν 0 0 0) 0 rfl f3 (fun l q => absurd q (by omega))
    have hM : F_M_image ν x = some (1, ν1) := by
      unfold F_M_image
      rw [show F_M_in x.toInt64 0 1 = some (nI 1) from h2, bnd_s, br1, e]
      exact q1
    rw [hM]
    subst e
    rcases (show i = 0 ∨ i = 1 by omega) with rfl | rfl
    · obtain ⟨m, c1, c2, c3⟩ := C_copy (b := 23) f2 h10
      rw [C_image0 c1 h1]
      exact ⟨1, _, _, rfl, rfl, img_fin (by decide) rfl h f1 f2 f3 q2 q3 q4 q5 q6 c2 c3⟩
    · obtain ⟨m, c1, c2, c3⟩ := C_copy (b := 29) f2 h10
      rw [C_image1 c1 h1]
      exact ⟨1, _, _, rfl, rfl, img_fin (by decide) rfl h f1 f2 f3 q2 q3 q4 q5 q6 c2 c3⟩
  · unfold F_T_image F_M_image
    rw [show F_T_within x 0 (2 - 1) = some (nI 0) from h1, show F_M_in x.toInt64 0 1 = some (nI 0) from h2]
    simp only [bnd_s, br0, br1, T_bad, M_bad]
    exact ok_bad h (SC.rf μ) (SM.st0 ν) _
theorem ok_from {μ ν : Mem} (h : Rel μ ν) (x : Int32) : okI Rel (F_T_from μ x) (F_M_from ν x) := by
  have im := h.2.2.2.2
  unfold F_T_from F_M_from
  rcases dich x 0 1 (by decide) (by decide) with ⟨i, _, hi, e, h1, h2⟩ | ⟨h1, h2⟩
  · rw [show F_T_within x 0 (2 - 1) = some (nI 1) from h1, show F_M_in x.toInt64 0 1 = some (nI 1) from h2, e]
    simp only [bnd_s, br0, br1, T_no, M_no]
    obtain ⟨r1, r2⟩ := im i (by omega)
    rw [gd_nI (show i < 2 by omega) (by decide), gd_nI (show i < 2 by omega) (by decide), nclamp (by omega), ← r1]
    rcases r2 with r2 | ⟨r2, t, r3, r4, r5⟩
    · rw [r2]
      simp only [br0]
      exact ok_no h (SC.rf μ) (SM.st0 ν) _
    · rw [r2]
      simp only [br1]
      obtain ⟨ν1, q1, q2, q3, q4⟩ := M_frm (t := t) (i := i) (by omega) 47 (by decide) (stI ν 0 0 0) 0 rfl r5 (fun l q => absurd q (by omega))
      obtain ⟨m, c1, c2, c3⟩ := C_copy (b := 1) r4 r3.2.2.2.2.2.1
      have fin : okI Rel (some (1, put6 1 0 (put6 (23 + 6 * i) 6 μ m) m)) (some (1, ν1)) :=
        ok_fld h (fun k q => c3 k (by omega)) ((SMF.of (SM.st0 ν)).tr (SMF.no2 q3 q4)) r3 c2 q2 rfl
      rw [show F_M_from_36 (stI ν 0 0 0) (nI i) 0 = some (1, ν1) from q1]
      rcases (show i = 0 ∨ i = 1 by omega) with rfl | rfl
      · rw [if_pos (show nI 0 = (0 : Int32) from rfl), show F_F_become (two 1 23 μ) = some m from c1]
        exact fin
      · rw [if_neg (show ¬ nI 1 = (0 : Int32) by decide), if_pos (show nI 1 = (1 : Int32) from rfl), show F_F_become (two 1 29 μ) = some m from c1]
        exact fin
  · rw [show F_T_within x 0 (2 - 1) = some (nI 0) from h1, show F_M_in x.toInt64 0 1 = some (nI 0) from h2]
    simp only [bnd_s, br0, br1, T_bad, M_bad]
    exact ok_bad h (SC.rf μ) (SM.st0 ν) _
