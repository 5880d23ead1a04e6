/-! Pure part (36): a step of the check. -/
def FM (ν ν1 : Mem) : Prop := (∀ k, k ≠ 0 → ν1.1 k = ν.1 k) ∧ (∀ j, (j < 8 ∨ 10 < j) → ν1.1 0 j = ν.1 0 j) ∧ ∀ j, j ≠ 11 → ν1.2 j = ν.2 j
theorem FM.rf (ν : Mem) : FM ν ν := ⟨fun _ _ => rfl, fun _ _ => rfl, fun _ _ => rfl⟩
theorem FM.tr {a b c : Mem} (h1 : FM a b) (h2 : FM b c) : FM a c := ⟨fun k q => (h2.1 k q).trans (h1.1 k q), fun k q => (h2.2.1 k q).trans (h1.2.1 k q), fun k q => (h2.2.2 k q).trans (h1.2.2 k q)⟩
theorem FM.st {ν : Mem} {j : Nat} {v : Int32} (h : 8 ≤ j ∧ j ≤ 10) : FM ν (stI ν 0 j v) := ⟨fun k q => stI_ne _ _ _ q, fun i q => by rw [stI_same, upd_ne _ _ (by omega)], fun _ _ => rfl⟩
theorem FM.l {ν : Mem} {v : Int64} : FM ν (stL ν 11 v) := ⟨fun _ _ => rfl, fun _ _ => rfl, fun j q => by rw [stL_2, if_neg q]⟩
theorem FM.mt {ν ν1 : Mem} {c : Nat → Nat} {L : Nat} (h : FM ν ν1) (g : MT ν c L) : MT ν1 c L := ⟨g.1, (h.2.1 7 (by omega)).trans g.2.1, fun j q => by rw [h.1 6 (by decide)]; exact g.2.2 j q⟩
theorem M_lt {x : Nat} (h : x ≤ 127) : F_M_in (nI x).toInt64 97 122 = some (nI (lt x).toNat) := by
  unfold lt
  rw [show F_M_in (nI x).toInt64 97 122 = _ from M_in (nI x) 97 122 (by decide) (by decide), nI_toInt (by omega)]
  by_cases c : 97 ≤ x ∧ x ≤ 122
  · rw [if_pos (by omega), decide_eq_true c]; rfl
  · rw [if_neg (by omega), decide_eq_false c]; rfl
theorem M_dg {x : Nat} (h : x ≤ 127) : F_M_in (nI x).toInt64 48 57 = some (nI (dg x).toNat) := by
  unfold dg
  rw [show F_M_in (nI x).toInt64 48 57 = _ from M_in (nI x) 48 57 (by decide) (by decide), nI_toInt (by omega)]
  by_cases c : 48 ≤ x ∧ x ≤ 57
  · rw [if_pos (by omega), decide_eq_true c]; rfl
  · rw [if_neg (by omega), decide_eq_false c]; rfl
theorem M_fig {ν : Mem} {c : Nat → Nat} {L p : Nat} (h : MT ν c L) (hp : ν.1 0 8 = nI p) (hpL : p ≤ L) : F_M_isFigure ν = some (nI (decide (p < L) && dg (c p)).toNat) := by
  have hL := h.1
  unfold F_M_isFigure
  rw [h.2.1, hp]
  by_cases e : p < L
  · obtain ⟨hc, hb⟩ := h.2.2 p e
    rw [if_neg (fun q => by have := (nI_leI (by omega) (by omega)).mp q; omega), gd_nI (by omega) (by decide), nclamp (by omega), hb, M_dg hc, bnd_s, decide_eq_true e, Bool.true_and]
    cases dg (c p) <;> rfl
  · rw [if_pos ((nI_leI (by omega) (by omega)).mpr (by omega)), decide_eq_false e, Bool.false_and]; rfl
def wvM (c : Nat → Nat) : Nat → Nat → Nat → Int64 → Int64
  | 0, _, _, a => a
  | d + 1, p, i, a => if lt (c p) = true then wvM c d (p + 1) (i + 1) (if 5 ≤ i then -1 else 27 * a + (nI (c p)).toInt64 - 96) else a
theorem M_99 {c : Nat → Nat} {L : Nat} : ∀ d, d < 1000 → ∀ (ν : Mem) (p i : Nat) (a : Int64), MT ν c L → ν.1 0 8 = nI p → ν.2 11 = a → i ≤ p → p + d = L → ∃ ν1, F_M_next_99 ν (nI i) = some ν1 ∧ FM ν ν1 ∧ ν1.1 0 8 = nI (run lt c d p) ∧ ν1.1 0 9 = ν.1 0 9 ∧ ν1.1 0 10 = ν.1 0 10 ∧ ν1.2 11 = wvM c d p i a := by
  refine fun d hd => iter_run (fun d (g : Mem → Int32 → Option Mem) => ∀ (ν : Mem) (p i : Nat) (a : Int64), MT ν c L → ν.1 0 8 = nI p → ν.2 11 = a → i ≤ p → p + d = L → ∃ ν1, g ν (nI i) = some ν1 ∧ FM ν ν1 ∧ ν1.1 0 8 = nI (run lt c d p) ∧ ν1.1 0 9 = ν.1 0 9 ∧ ν1.1 0 10 = ν.1 0 10 ∧ ν1.2 11 = wvM c d p i a) ?_ ?_ NF d (NF_lt hd)
  · intro g ν p i a h hp ha hi e
    have hL := h.1
    unfold S_M_next_99
    rw [h.2.1, hp, if_pos ((nI_leI (by omega) (by omega)).mpr (by omega))]
    exact ⟨ν, rfl, FM.rf ν, hp, rfl, rfl, ha⟩
  · intro d g ih ν p i a h hp ha hi e
    have hL := h.1
    obtain ⟨hc, hb⟩ := h.2.2 p (by omega)
    unfold S_M_next_99
    rw [h.2.1, hp, if_neg (fun q => by have := (nI_leI (by omega) (by omega)).mp q; omega), gd_nI (by omega) (by decide), gd_nI (by omega) (by decide), nclamp (by omega), hb, M_lt hc, bnd_s, ha]
    have er : run lt c (d + 1) p = if lt (c p) = true then run lt c d (p + 1) else p := rfl
    have ew : wvM c (d + 1) p i a = if lt (c p) = true then wvM c d (p + 1) (i + 1) (if 5 ≤ i then -1 else 27 * a + (nI (c p)).toInt64 - 96) else a := rfl
    rw [er, ew]
    cases c1 : lt (c p) with
    | true =>
      rw [if_neg (by decide), if_pos rfl, if_pos rfl]
      have key : ∀ v : Int64, ∃ ν1, F_M_next_167 g ν (nI i) v = some ν1 ∧ FM ν ν1 ∧ ν1.1 0 8 = nI (run lt c d (p + 1)) ∧ ν1.1 0 9 = ν.1 0 9 ∧ ν1.1 0 10 = ν.1 0 10 ∧ ν1.2 11 = wvM c d (p + 1) (i + 1) v := by
        intro v
        unfold F_M_next_167
        rw [hp, nI_1, nI_1]
        have hF : FM ν (stI (stL ν 11 v) 0 8 (nI (p + 1))) := FM.l.tr (FM.st (by omega))
        obtain ⟨ν1, e1, e2, e3, e4, e5, e6⟩ := ih (stI (stL ν 11 v) 0 8 (nI (p + 1))) (p + 1) (i + 1) v (hF.mt h) (by rw [stI_same, upd_same]) rfl (by omega) (by omega)
        exact ⟨ν1, e1, hF.tr e2, e3, by rw [e4, stI_same, upd_ne _ _ (by decide)]; rfl, by rw [e5, stI_same, upd_ne _ _ (by decide)]; rfl, e6⟩
      by_cases c5 : 5 ≤ i
      · rw [if_pos (show (5 : Int32) ≤ nI i from (nI_leI (a := 5) (by decide) (by omega)).mpr c5), if_pos c5]
        exact key _
      · rw [if_neg (show ¬ (5 : Int32) ≤ nI i from fun q => c5 ((nI_leI (a := 5) (by decide) (by omega)).mp q)), if_neg c5]
        exact key _
    | false =>
      rw [if_pos (by decide), if_neg (by decide), if_neg (by decide)]
      exact ⟨ν, rfl, FM.rf ν, hp, rfl, rfl, ha⟩
def nvM (c : Nat → Nat) : Nat → Nat → Nat → Nat → Nat
  | 0, _, _, a => a
  | d + 1, p, i, a => if dg (c p) = true then nvM c d (p + 1) (i + 1) (if 2 ≤ i then a else 10 * a + c p - 48) else a
theorem M_198 {c : Nat → Nat} {L : Nat} : ∀ d, d < 1000 → ∀ (ν : Mem) (p i a : Nat), MT ν c L → ν.1 0 8 = nI p → ν.2 11 = lN a → i ≤ p → p + d = L → ∃ ν1, F_M_next_198 ν (nI i) = some ν1 ∧ FM ν ν1 ∧ ν1.1 0 8 = nI (run dg c d p) ∧ ν1.1 0 9 = ν.1 0 9 ∧ ν1.1 0 10 = (if i + (run dg c d p - p) ≤ 2 then 3 else 0) ∧ ν1.2 11 = lN (nvM c d p i a) := by
  have fin : ∀ (g : Mem → Int32 → Option Mem) (ν : Mem) (p i a : Nat), MT ν c L → ν.1 0 8 = nI p → ν.2 11 = lN a → i ≤ p → p ≤ L → (decide (p < L) && dg (c p)) = false → ∃ ν1, S_M_next_198 g ν (nI i) = some ν1 ∧ FM ν ν1 ∧ ν1.1 0 8 = nI p ∧ ν1.1 0 9 = ν.1 0 9 ∧ ν1.1 0 10 = (if i + (p - p) ≤ 2 then 3 else 0) ∧ ν1.2 11 = lN a := by
    intro g ν p i a h hp ha hi e hf
    have hL := h.1
    unfold S_M_next_198
    rw [M_fig h hp e, hf, bnd_s, if_pos (by decide)]
    by_cases c2 : i ≤ 2
    · rw [if_pos (show nI i ≤ 2 from (nI_leI (b := 2) (by omega) (by omega)).mpr c2), if_pos (by omega)]
      exact ⟨_, rfl, FM.st (by omega), by rw [stI_same, upd_ne _ _ (by decide)]; exact hp, by rw [stI_same, upd_ne _ _ (by decide)], by rw [stI_same, upd_same], ha⟩
    · rw [if_neg (show ¬ nI i ≤ 2 from fun q => c2 ((nI_leI (b := 2) (by omega) (by omega)).mp q)), if_neg (by omega)]
      exact ⟨_, rfl, FM.st (by omega), by rw [stI_same, upd_ne _ _ (by decide)]; exact hp, by rw [stI_same, upd_ne _ _ (by decide)], by rw [stI_same, upd_same], ha⟩
  refine fun d hd => iter_run (fun d (g : Mem → Int32 → Option Mem) => ∀ (ν : Mem) (p i a : Nat), MT ν c L → ν.1 0 8 = nI p → ν.2 11 = lN a → i ≤ p → p + d = L → ∃ ν1, g ν (nI i) = some ν1 ∧ FM ν ν1 ∧ ν1.1 0 8 = nI (run dg c d p) ∧ ν1.1 0 9 = ν.1 0 9 ∧ ν1.1 0 10 = (if i + (run dg c d p - p) ≤ 2 then 3 else 0) ∧ ν1.2 11 = lN (nvM c d p i a)) ?_ ?_ NF d (NF_lt hd)
  · intro g ν p i a h hp ha hi e
    exact fin g ν p i a h hp ha hi (by omega) (by rw [decide_eq_false (by omega), Bool.false_and])
  · intro d g ih ν p i a h hp ha hi e
    have hL := h.1
    obtain ⟨hc, hb⟩ := h.2.2 p (by omega)
    have er : run dg c (d + 1) p = if dg (c p) = true then run dg c d (p + 1) else p := rfl
    have ew : nvM c (d + 1) p i a = if dg (c p) = true then nvM c d (p + 1) (i + 1) (if 2 ≤ i then a else 10 * a + c p - 48) else a := rfl
    rw [er, ew]
    cases c1 : dg (c p) with
    | true =>
      have hd := of_decide_eq_true c1
      have hr := run_le dg c d (p + 1)
      rw [if_pos rfl, if_pos rfl]
      unfold S_M_next_198
      rw [M_fig h hp (by omega), c1, decide_eq_true (show p < L by omega), bnd_s, if_neg (by decide), hp, gd_nI (by omega) (by decide), nclamp (by omega), hb, ha]
      have key : ∀ v : Nat, ∃ ν1, F_M_next_241 g ν (nI i) (lN v) = some ν1 ∧ FM ν ν1 ∧ ν1.1 0 8 = nI (run dg c d (p + 1)) ∧ ν1.1 0 9 = ν.1 0 9 ∧ ν1.1 0 10 = (if i + (run dg c d (p + 1) - p) ≤ 2 then 3 else 0) ∧ ν1.2 11 = lN (nvM c d (p + 1) (i + 1) v) := by
        intro v
        unfold F_M_next_241
        rw [hp, nI_1, nI_1]
        have hF : FM ν (stI (stL ν 11 (lN v)) 0 8 (nI (p + 1))) := FM.l.tr (FM.st (by omega))
        obtain ⟨ν1, e1, e2, e3, e4, e5, e6⟩ := ih (stI (stL ν 11 (lN v)) 0 8 (nI (p + 1))) (p + 1) (i + 1) v (hF.mt h) (by rw [stI_same, upd_same]) rfl (by omega) (by omega)
        exact ⟨ν1, e1, hF.tr e2, e3, by rw [e4, stI_same, upd_ne _ _ (by decide)]; rfl, by rw [e5, show i + 1 + (run dg c d (p + 1) - (p + 1)) = i + (run dg c d (p + 1) - p) by omega], e6⟩
      by_cases c5 : 2 ≤ i
      · rw [if_pos (show (2 : Int32) ≤ nI i from (nI_leI (a := 2) (by decide) (by omega)).mpr c5), if_pos c5]
        exact key _
      · rw [if_neg (show ¬ (2 : Int32) ≤ nI i from fun q => c5 ((nI_leI (a := 2) (by decide) (by omega)).mp q)), if_neg c5, nI_l (by omega), litL 10, litL 48, lN_mul, lN_add, lN_sub (by omega)]
        exact key _
    | false =>
      rw [if_neg (show ¬ false = true by decide), if_neg (show ¬ false = true by decide)]
      exact fin g ν p i a h hp ha hi (by omega) (by rw [c1, Bool.and_false])
/-! numbers alike -/
theorem nv_stop (c : Nat → Nat) : ∀ d p a i, run dg c d p = p → nvC c d p a = a ∧ nvM c d p i a = a := by
  intro d p a i h
  cases d with
  | zero => exact ⟨rfl, rfl⟩
  | succ d =>
    have h' : (if dg (c p) = true then run dg c d (p + 1) else p) = p := h
    have hr := run_le dg c d (p + 1)
    by_cases e : dg (c p) = true
    · rw [if_pos e] at h'; omega
    · exact ⟨if_neg e, if_neg e⟩
theorem nv_alike (c : Nat → Nat) (d p : Nat) (h : run dg c d p - p ≤ 2) : nvM c d p 0 0 = nvC c d p 0 := by
  cases d with
  | zero => rfl
  | succ d =>
    have h' : (if dg (c p) = true then run dg c d (p + 1) else p) - p ≤ 2 := h
    show (if dg (c p) = true then nvM c d (p + 1) 1 (10 * 0 + c p - 48) else 0) = (if dg (c p) = true then nvC c d (p + 1) ((10 * 0 + c p - 48) % 100) else 0)
    by_cases e : dg (c p) = true
    · have e' := of_decide_eq_true e
      rw [if_pos e] at h'
      rw [if_pos e, if_pos e, show (10 * 0 + c p - 48) % 100 = 10 * 0 + c p - 48 by omega]
      generalize hx : 10 * 0 + c p - 48 = x
      cases d with
      | zero => rfl
      | succ d =>
        have h2 : (if dg (c (p + 1)) = true then run dg c d (p + 1 + 1) else p + 1) - p ≤ 2 := h'
        show (if dg (c (p + 1)) = true then nvM c d (p + 1 + 1) 2 (10 * x + c (p + 1) - 48) else x) = (if dg (c (p + 1)) = true then nvC c d (p + 1 + 1) ((10 * x + c (p + 1) - 48) % 100) else x)
        by_cases f : dg (c (p + 1)) = true
        · have f' := of_decide_eq_true f
          rw [if_pos f] at h2
          have hr := run_le dg c d (p + 1 + 1)
          rw [if_pos f, if_pos f, show (10 * x + c (p + 1) - 48) % 100 = 10 * x + c (p + 1) - 48 by omega, (nv_stop c d (p + 1 + 1) _ 2 (by omega)).1, (nv_stop c d (p + 1 + 1) _ 2 (by omega)).2]
        · rw [if_neg f, if_neg f]
    · rw [if_neg e, if_neg e]
theorem nvC_lt (c : Nat → Nat) : ∀ d p a, a < 100 → nvC c d p a < 100 := by
  intro d
  induction d with
  | zero => intro p a h; exact h
  | succ d ih =>
    intro p a h
    show (if dg (c p) = true then nvC c d (p + 1) ((10 * a + c p - 48) % 100) else a) < 100
    split
    · exact ih _ _ (Nat.mod_lt _ (by decide))
    · exact h
