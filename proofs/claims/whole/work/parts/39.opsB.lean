/-! Pure part (10): the text; what is kept of who stood; the gust, standing, undoing. -/
theorem ok_full {μ ν μ1 ν1 : Mem} (h : Rel μ ν) (hc : SC μ μ1) (hm : SM ν ν1) (x : Int32) : okI Rel (some (x, stI μ1 0 12 (μ1.1 0 12 + 1))) (some (x, stI ν1 1 2 (ν1.1 1 2 + 1))) := ⟨x, _, _, rfl, rfl, (h.same hc hm).cnt 2 (by decide) rfl rfl⟩
theorem Rel.tx {μ ν μ1 ν1 : Mem} (h : Rel μ ν) (c : ∀ k, k ≠ 0 → k ≠ 13 → μ1.1 k = μ.1 k) (c0 : ∀ j, j ≠ 7 → μ1.1 0 j = μ.1 0 j) (m : ∀ k, k ≠ 0 → k ≠ 6 → ν1.1 k = ν.1 k) (m2 : ν1.2 = ν.2) (x : Rtx μ1 ν1) : Rel μ1 ν1 := by
  obtain ⟨⟨t, f1, f2, f3⟩, s, _, r, i⟩ := h
  refine ⟨⟨t, f1, f2.keep (fun k q1 q2 => c k (by omega) (by omega)), by rw [m 2 (by decide) (by decide)]; exact f3⟩, ?_, x, ?_, i.same (fun k q => c k (by omega) (by omega)) (m 5 (by decide) (by decide)) (m 4 (by decide) (by decide))⟩
  · unfold Rst; rw [c0 10 (by decide), c0 11 (by decide), c0 12 (by decide), m 1 (by decide) (by decide)]; exact s
  · unfold Rfr; rw [c0 8 (by decide), c0 9 (by decide), m2]; exact r
theorem nar_byte : ∀ n, n < 128 → vp_nar .byte ((nI n).toInt8.toInt32) = nI n := by decide +kernel
theorem ok_type {μ ν : Mem} (h : Rel μ ν) (x : Int32) : okI Rel (F_T_type μ x) (F_M_type ν x) := by
  obtain ⟨sz, s1, s2, s3, s4⟩ := h.2.2.1
  unfold F_T_type F_M_type
  rw [s2, s3, lit 0, lit 127, litL 0, litL 127]
  rcases dich x 0 127 (by decide) (by decide) with ⟨n, a, b, e, h1, h2⟩ | ⟨h1, h2⟩
  · rw [h1, h2, e, lit 150, lit 1, nI_add]
    simp only [bnd_s, br1, brn1]
    by_cases c : sz = 150
    · rw [if_neg (show ¬ nI sz < nI 150 by rw [nI_ltI (by omega) (by decide)]; omega), if_pos (by rw [c]), ← lit 0, lit 2, M_refuse _ 2 (by decide)]
      exact ok_full h (SC.rf μ) (SM.st0 ν) _
    · rw [if_pos (show nI sz < nI 150 by rw [nI_ltI (by omega) (by decide)]; omega), if_neg (show ¬ nI sz = nI 150 from fun q => c ((nI_eq (by omega) (by decide)).mp q)), gd_nI (by omega) (by decide), gd_nI (by omega) (by decide), nclamp (by omega), nar_byte n (by omega)]
      refine ⟨_, _, _, rfl, rfl, h.tx (fun k q r => ?_) (fun j q => ?_) (fun k q r => ?_) rfl ⟨sz + 1, by omega, ?_, ?_, fun j hj => ?_⟩⟩
      · rw [stI_ne _ _ _ q, stI_ne _ _ _ r]
      · rw [stI_same, upd_ne _ _ q, stI_ne _ _ _ (by decide)]
      · rw [stI_ne _ _ _ q, stI_ne _ _ _ r, stI_ne _ _ _ q]
      · rw [stI_same, upd_same]
      · rw [stI_same, upd_same]
      · rw [stI_ne _ _ _ (by decide), stI_same, upd_at, stI_ne _ _ _ (by decide), stI_same, upd_at, stI_ne _ _ _ (by decide)]
        by_cases cj : j = sz
        · rw [if_pos cj, if_pos cj]; exact ⟨n, b, rfl, rfl⟩
        · rw [if_neg cj, if_neg cj]; exact s4 j (by omega)
  · rw [h1, h2]
    simp only [bnd_s, br0, brn0, T_bad, M_bad]
    exact ok_bad h (SC.rf μ) (SM.st0 ν) _
theorem ok_clear {μ ν : Mem} (h : Rel μ ν) : okI Rel (F_T_clear μ) (F_M_clear ν) := by
  obtain ⟨sz, s1, s2, s3, s4⟩ := h.2.2.1
  refine ⟨μ.1 0 7, _, _, rfl, ?_, h.tx (μ1 := stI μ 0 7 0) (ν1 := stI (stI ν 0 0 0) 0 7 0) (fun k q r => stI_ne _ _ _ q) (fun j q => ?_) (fun k q r => ?_) rfl ⟨0, by omega, ?_, ?_, fun j hj => absurd hj (by omega)⟩⟩
  · unfold F_M_clear; rw [s2, s3]
  · rw [stI_same, upd_ne _ _ q]
  · rw [stI_ne _ _ _ q, stI_ne _ _ _ q]
  · rw [stI_same, upd_same]; rfl
  · rw [stI_same, upd_same]; rfl
/-! who stood -/
def keep (t : Nat → Nat) : Nat → Nat := fun i => if i = 4 then (if t 4 = 10 then 10 else t 4 + 1) else if 37 ≤ i ∧ i < 47 then (if t 4 = 10 then (if i = 46 then t 1 else t (i + 1)) else if i = 37 + t 4 then t 1 else t i) else t i
theorem kp_lo (t : Nat → Nat) {i : Nat} (h : i ≠ 4) (h2 : i < 37) : keep t i = t i := by unfold keep; rw [if_neg h, if_neg (by omega)]
theorem kp_10 (t : Nat → Nat) {j : Nat} (h : j < 10) (c : t 4 = 10) : keep t (37 + j) = if j = 9 then t 1 else t (37 + (j + 1)) := by
  unfold keep
  rw [if_neg (by omega), if_pos (by omega), if_pos c]
  by_cases e : j = 9
  · rw [if_pos (by omega), if_pos e]
  · rw [if_neg (by omega), if_neg e]; congr 1
theorem kp_lt (t : Nat → Nat) {j : Nat} (h : j < 10) (c : ¬ t 4 = 10) : keep t (37 + j) = if j = t 4 then t 1 else t (37 + j) := by
  unfold keep
  rw [if_neg (by omega), if_pos (by omega), if_neg c]
  by_cases e : j = t 4
  · rw [if_pos (by omega), if_pos e]
  · rw [if_neg (by omega), if_neg e]
theorem keep_wf {t : Nat → Nat} (h : Wf t) : Wf (keep t) := by
  obtain ⟨a1, a2, a3, a4, a5, a6, a7, a8, a9, a10, a11⟩ := h
  have e0 : keep t 0 = t 0 := kp_lo t (by decide) (by decide)
  unfold Wf
  rw [e0, kp_lo t (i := 1) (by decide) (by decide), kp_lo t (i := 2) (by decide) (by decide), kp_lo t (i := 3) (by decide) (by decide)]
  refine ⟨a1, a2, a3, a4, a5, ?_, fun k q => ?_, fun k q => ?_, fun k q => ?_, fun k q => ?_, fun k q => ?_⟩
  · show (if 4 = 4 then (if t 4 = 10 then 10 else t 4 + 1) else _) ≤ 10
    rw [if_pos rfl]; split <;> omega
  · rw [kp_lo t (by omega) (by omega)]; exact a7 k q
  · rw [kp_lo t (by omega) (by omega)]; exact a8 k q
  · rw [kp_lo t (by omega) (by omega)]; exact a9 k q
  · rw [kp_lo t (by omega) (by omega)]; exact a10 k q
  · have q' : k < (if t 4 = 10 then 10 else t 4 + 1) := q
    have hk : k < 10 := by split at q' <;> omega
    unfold keep
    rw [if_neg (by omega), if_pos (by omega)]
    by_cases c : t 4 = 10
    · rw [if_pos c]
      by_cases c2 : 37 + k = 46
      · rw [if_pos c2]; exact a3
      · rw [if_neg c2]; exact a11 (k + 1) (by omega)
    · rw [if_neg c] at q' ⊢
      by_cases c2 : 37 + k = 37 + t 4
      · rw [if_pos c2]; exact a3
      · rw [if_neg c2]; exact a11 k (by omega)
theorem C_remember {φ : Mem} {t : Nat → Nat} (h : CF φ 0 t) (w : Wf t) : ∃ φ1, F_F_remember φ = some φ1 ∧ CF φ1 0 (keep t) := by
  obtain ⟨⟨a1, a2, a3, a4, a5⟩, b1, b2, b3, b4, b5⟩ := h
  have h10 : t 4 ≤ 10 := w.2.2.2.2.2.1
  have e4 : keep t 4 = if t 4 = 10 then 10 else t 4 + 1 := rfl
  have rows : ∀ φ1 : Mem, (∀ k, k ≠ 0 → k ≠ 5 → φ1.1 k = φ.1 k) → (∀ j, j ≠ 4 → φ1.1 0 j = φ.1 0 j) → φ1.1 0 4 = nI (keep t 4) → (∀ j, j < keep t 4 → φ1.1 5 j = nI (keep t (37 + j))) → CF φ1 0 (keep t) := by
    intro φ1 r1 r2 r3 r4
    refine ⟨⟨by rw [r2 0 (by decide), a1, kp_lo t (by decide) (by decide)], by rw [r2 1 (by decide), a2, kp_lo t (by decide) (by decide)], by rw [r2 2 (by decide), a3, kp_lo t (by decide) (by decide)], by rw [r2 3 (by decide), a4, kp_lo t (by decide) (by decide)], r3⟩, fun k q => ?_, fun k q => ?_, fun k q => ?_, fun k q => ?_, fun j q => r4 j q⟩
    · rw [r1 _ (by decide) (by decide), b1 k q, kp_lo t (by omega) (by omega)]
    · rw [r1 _ (by decide) (by decide), b2 k q, kp_lo t (by omega) (by omega)]
    · rw [r1 _ (by decide) (by decide), b3 k q, kp_lo t (by omega) (by omega)]
    · rw [r1 _ (by decide) (by decide), b4 k q, kp_lo t (by omega) (by omega)]
  unfold F_F_remember F_F_remember_34
  by_cases c : t 4 = 10
  · rw [a5, lit 10, if_pos (by rw [c]), c, lit 1, nsub (by decide)]
    have e9 : (stI (stR φ 5 (va_cpy (φ.1 5) (φ.1 5) 1 0 9)) 0 4 (nI (10 - 1))).1 0 4 = nI 9 := by rw [stI_same, upd_same]
    rw [e9, gd_nI (by decide) (by decide), nclamp (by decide), nI_add]
    refine ⟨_, rfl, rows _ (fun k q r => ?_) (fun j q => ?_) ?_ (fun j q => ?_)⟩
    · rw [stI_ne _ _ _ q, stI_ne _ _ _ r, stI_ne _ _ _ q, stR_row, if_neg r]
    · rw [stI_same, upd_ne _ _ q, stI_ne _ _ _ (by decide), stI_same, upd_ne _ _ q, stR_row, if_neg (by decide)]
    · rw [stI_same, upd_same, e4, if_pos c]
    · rw [e4, if_pos c] at q
      have e3 : (stI (stR φ 5 (va_cpy (φ.1 5) (φ.1 5) 1 0 9)) 0 4 (nI (10 - 1))).1 0 3 = nI (t 1) := by rw [stI_same, upd_ne _ _ (by decide), stR_row, if_neg (by decide), a4]
      have e5 : (stI (stR φ 5 (va_cpy (φ.1 5) (φ.1 5) 1 0 9)) 0 4 (nI (10 - 1))).1 5 = va_cpy (φ.1 5) (φ.1 5) 1 0 9 := by rw [stI_ne _ _ _ (by decide), stR_row, if_pos rfl]
      rw [e3, stI_ne _ _ _ (by decide), stI_same, upd_at, e5, kp_10 t q c]
      by_cases c2 : j = 9
      · rw [if_pos c2, if_pos c2]
      · rw [if_neg c2, if_neg c2]
        unfold va_cpy
        rw [if_pos (by omega), b5 _ (by omega)]
        congr 3; omega
  · have c' : ¬ nI (t 4) = nI 10 := fun q => c ((nI_eq (by omega) (by decide)).mp q)
    rw [a5, lit 10, if_neg c', gd_nI (by omega) (by decide), nclamp (by omega), lit 1, nI_add]
    refine ⟨_, rfl, rows _ (fun k q r => ?_) (fun j q => ?_) ?_ (fun j q => ?_)⟩
    · rw [stI_ne _ _ _ q, stI_ne _ _ _ r]
    · rw [stI_same, upd_ne _ _ q, stI_ne _ _ _ (by decide)]
    · rw [stI_same, upd_same, e4, if_neg c]
    · rw [e4, if_neg c] at q
      rw [stI_ne _ _ _ (by decide), stI_same, upd_at, kp_lt t (by omega) c]
      by_cases c2 : j = t 4
      · rw [if_pos c2, if_pos c2]; exact a4
      · rw [if_neg c2, if_neg c2]; exact b5 j (by omega)
theorem M_kept_55 (ν : Mem) {f : Nat → Nat} (h : MF (ν.1 2) f) (h4 : f 4 < 10) : F_M_keepStood_55 ν = some (stI (stI ν 2 (37 + f 4) (nI (f 1))) 2 4 (nI (f 4 + 1))) := by
  unfold F_M_keepStood_55
  simp only [show (4 : Int32).toNatClampNeg = 4 from rfl, show (1 : Int32).toNatClampNeg = 1 from rfl, gd_t (show inb 4 47 = true by decide), gd_t (show inb 1 47 = true by decide)]
  rw [h 4 (by decide), h 1 (by decide), lit 37, nI_add, gd_nI (by omega) (by decide), nclamp (by omega), stI_same, upd_ne _ _ (by omega), h 4 (by decide), lit 1, nI_add]
theorem M_shift {t : Nat → Nat} : ∀ d, d < 1000 → ∀ (ν : Mem) (i : Nat), i + d = 9 → (∀ j, j < 47 → ν.1 2 j = if 37 ≤ j ∧ j < 37 + i then nI (t (j + 1)) else nI (t j)) → t 4 = 10 → ∃ ν1, F_M_keepStood_13 ν (nI i) = some ν1 ∧ MF (ν1.1 2) (keep t) ∧ (∀ k, k ≠ 2 → ν1.1 k = ν.1 k) ∧ ν1.2 = ν.2 := by
  refine fun d hd => iter_run (fun d (g : Mem → Int32 → Option Mem) => ∀ (ν : Mem) (i : Nat), i + d = 9 → (∀ j, j < 47 → ν.1 2 j = if 37 ≤ j ∧ j < 37 + i then nI (t (j + 1)) else nI (t j)) → t 4 = 10 → ∃ ν1, g ν (nI i) = some ν1 ∧ MF (ν1.1 2) (keep t) ∧ (∀ k, k ≠ 2 → ν1.1 k = ν.1 k) ∧ ν1.2 = ν.2) ?_ ?_ NF d (NF_lt hd)
  · intro g ν i hi hr h10
    unfold S_M_keepStood_13
    rw [lit 9, if_pos ((nI_leI (by decide) (by omega)).mpr (by omega)), gd_t (by decide), gd_t (by decide)]
    have e4 : ν.1 2 (4 : Int32).toNatClampNeg = nI 10 := by
      rw [show (4 : Int32).toNatClampNeg = 4 from rfl, hr 4 (by decide), if_neg (by omega), h10]
    rw [e4, lit 1, nsub (by decide), show (4 : Int32).toNatClampNeg = 4 from rfl]
    have hf : MF ((stI ν 2 4 (nI (10 - 1))).1 2) (fun j => if j = 4 then 9 else if 37 ≤ j ∧ j < 37 + i then t (j + 1) else t j) := by
      intro j hj
      rw [stI_same, upd_at]
      by_cases c : j = 4
      · simp only [if_pos c]
      · simp only [if_neg c]; rw [hr j hj]; split <;> rfl
    rw [M_kept_55 _ hf (by show (if 4 = 4 then 9 else _) < 10; rw [if_pos rfl]; decide)]
    refine ⟨_, rfl, fun j hj => ?_, fun k q => by rw [stI_ne _ _ _ q, stI_ne _ _ _ q, stI_ne _ _ _ q], rfl⟩
    rw [stI_same, stI_same, upd_at, upd_at, stI_same, upd_at]
    show (if j = 4 then nI (9 + 1) else if j = 37 + 9 then nI (if 1 = 4 then 9 else if 37 ≤ 1 ∧ 1 < 37 + i then t (1 + 1) else t 1) else _) = _
    unfold keep
    by_cases c4 : j = 4
    · rw [if_pos c4, if_pos c4, if_pos h10]
    · rw [if_neg c4, if_neg c4, if_neg c4]
      by_cases c46 : j = 46
      · rw [if_pos (by omega), if_neg (by decide), if_neg (by omega), if_pos (by omega), if_pos h10, if_pos c46]
      · rw [if_neg (by omega), hr j hj]
        by_cases c : 37 ≤ j ∧ j < 47
        · rw [if_pos (by omega), if_pos c, if_pos h10, if_neg c46]
        · rw [if_neg (by omega), if_neg c]
  · intro d g ih ν i hi hr h10
    unfold S_M_keepStood_13
    rw [lit 9, lit 37, lit 1, if_neg (fun q => by have := (nI_leI (by decide) (by omega)).mp q; omega), nI_add, nI_add, gd_nI (by omega) (by decide), gd_nI (by omega) (by decide), nclamp (by omega), nclamp (by omega), nI_add]
    obtain ⟨ν1, e1, e2, e3, e4⟩ := ih (stI ν 2 (37 + i) (ν.1 2 (37 + i + 1))) (i + 1) (by omega) (fun j hj => by
      rw [stI_same, upd_at]
      by_cases c : j = 37 + i
      · rw [if_pos c, if_pos (by omega), hr _ (by omega), if_neg (by omega), c]
      · rw [if_neg c, hr j hj]
        by_cases c2 : 37 ≤ j ∧ j < 37 + i
        · rw [if_pos c2, if_pos (by omega)]
        · rw [if_neg c2, if_neg (by omega)]) h10
    exact ⟨ν1, e1, e2, fun k q => by rw [e3 k q, stI_ne _ _ _ q], e4⟩
theorem M_keep {ν : Mem} {t : Nat → Nat} (h : MS ν t) : ∃ ν1, F_M_keepStood ν = some ν1 ∧ MS ν1 (keep t) ∧ (∀ k, k ≠ 2 → ν1.1 k = ν.1 k) ∧ ν1.2 = ν.2 := by
  have h10 : t 4 ≤ 10 := h.2.2.2.2.2.2.1
  unfold F_M_keepStood
  rw [gd_t (by decide), show (4 : Int32).toNatClampNeg = 4 from rfl, h.at 4 (by decide), lit 10]
  by_cases c : t 4 = 10
  · rw [if_pos (by rw [c]), lit 0]
    obtain ⟨ν1, e1, e2, e3⟩ := M_shift (t := t) 9 (by decide) ν 0 rfl (fun j hj => by rw [if_neg (by omega)]; exact h.1 j hj) c
    exact ⟨ν1, e1, ⟨e2, keep_wf h.2⟩, e3⟩
  · rw [if_neg (fun q => c ((nI_eq (by omega) (by decide)).mp q)), M_kept_55 ν h.1 (by omega)]
    refine ⟨_, rfl, ⟨fun j hj => ?_, keep_wf h.2⟩, fun k q => by rw [stI_ne _ _ _ q, stI_ne _ _ _ q], rfl⟩
    rw [stI_same, stI_same, upd_at, upd_at]
    unfold keep
    by_cases c4 : j = 4
    · rw [if_pos c4, if_pos c4, if_neg c]
    · rw [if_neg c4, if_neg c4]
      by_cases c2 : j = 37 + t 4
      · rw [if_pos c2, if_pos (by omega), if_neg c, if_pos c2]
      · rw [if_neg c2, h.1 j hj]
        by_cases c3 : 37 ≤ j ∧ j < 47
        · rw [if_pos c3, if_neg c, if_neg c2]
        · rw [if_neg c3]
