/-! Pure part (39): an item, read by both. -/
theorem wd_1 (c : Nat → Nat) (s n : Nat) : wd c s n ≠ 1 := by
  unfold wd
  repeat' split
  all_goals decide
theorem wd_3 (c : Nat → Nat) (s n : Nat) : wd c s n ≠ 3 := by
  unfold wd
  repeat' split
  all_goals decide
theorem wd_9 (c : Nat → Nat) (s n : Nat) : wd c s n ≤ 9 := by
  unfold wd
  repeat' split
  all_goals decide
theorem kd_end {c : Nat → Nat} {L q : Nat} : kdq c L q = 1 ↔ q = L := by
  refine ⟨fun h => ?_, fun h => if_pos h⟩
  by_cases e : q = L
  · exact e
  · unfold kdq at h
    rw [if_neg e] at h
    by_cases l1 : lt (c q) = true
    · rw [if_pos l1] at h; exact absurd h (wd_1 _ _ _)
    · rw [if_neg l1] at h
      by_cases l2 : dg (c q) = true
      · rw [if_pos l2] at h
        split at h <;> cases h
      · rw [if_neg l2] at h
        split at h <;> cases h
theorem en_le {c : Nat → Nat} {L q : Nat} (h : q ≤ L) : q ≤ enq c L q ∧ enq c L q ≤ L ∧ (kdq c L q ≠ 1 → q + 1 ≤ enq c L q) ∧ (4 ≤ kdq c L q → q + 3 ≤ enq c L q) := by
  by_cases e : q = L
  · rw [show enq c L q = q from if_pos e, show kdq c L q = 1 from if_pos e]
    exact ⟨Nat.le_refl _, h, fun z => absurd rfl z, fun z => absurd z (by decide)⟩
  · have e1 : L - q = (L - q - 1) + 1 := by omega
    unfold enq kdq
    rw [if_neg e, if_neg e]
    by_cases l1 : lt (c q) = true
    · have e2 : run lt c (L - q) q = run lt c (L - q - 1) (q + 1) := by
        rw [e1]
        show (if lt (c q) = true then run lt c (L - q - 1) (q + 1) else q) = _
        rw [if_pos l1]; rfl
      have hr := run_le lt c (L - q - 1) (q + 1)
      rw [if_pos l1, if_pos l1]
      refine ⟨by omega, by omega, fun _ => by omega, fun z => ?_⟩
      by_cases e3 : run lt c (L - q) q - q ≠ 3 ∧ run lt c (L - q) q - q ≠ 4
      · rw [wd_0 e3] at z; omega
      · omega
    · rw [if_neg l1, if_neg l1]
      by_cases l2 : dg (c q) = true
      · have e2 : run dg c (L - q) q = run dg c (L - q - 1) (q + 1) := by
          rw [e1]
          show (if dg (c q) = true then run dg c (L - q - 1) (q + 1) else q) = _
          rw [if_pos l2]; rfl
        have hr := run_le dg c (L - q - 1) (q + 1)
        rw [if_pos l2, if_pos l2]
        refine ⟨by omega, by omega, fun _ => by omega, fun z => ?_⟩
        split at z <;> omega
      · rw [if_neg l2, if_neg l2]
        refine ⟨by omega, by omega, fun _ => by omega, fun z => ?_⟩
        split at z <;> omega
/-- the check has stepped from there -/
def CS (ν : Mem) (c : Nat → Nat) (L p : Nat) : Prop := ν.1 0 9 = nI (sk' c L p) ∧ ν.1 0 8 = nI (enq c L (sk' c L p)) ∧ TokM ν (kdq c L (sk' c L p)) (vlq c L (sk' c L p))
/-- the fault, alike -/
def FA (μ ν : Mem) (L : Nat) : Prop := ∃ f, f ≤ L ∧ μ.1 14 5 = nI f ∧ (if ν.1 0 10 = 1 then ν.1 0 7 else ν.1 0 9) = nI f
theorem TokM.one {ν : Mem} {k v : Nat} (h : TokM ν k v) : ν.1 0 10 = 1 ↔ k = 1 := by
  rcases h with ⟨a, e⟩ | ⟨a, e, _⟩ | ⟨a, e⟩ | ⟨a, b, e, _⟩ | ⟨a, e⟩
  · exact ⟨fun _ => a, fun _ => e⟩
  · rw [e]; exact ⟨fun z => absurd z (by decide), fun z => by omega⟩
  · rw [e]; exact ⟨fun z => absurd z (by decide), fun z => by omega⟩
  · rw [e]; exact ⟨fun z => absurd z (by decide), fun z => by omega⟩
  · rcases e with e | ⟨e, _⟩
    · rw [e]; exact ⟨fun z => absurd z (by decide), fun z => by omega⟩
    · rw [e]; exact ⟨fun z => absurd z (by decide), fun z => by omega⟩
theorem TokM.num {ν : Mem} {k v : Nat} (h : TokM ν k v) : (ν.1 0 10 = 3 ↔ k = 2) ∧ (k = 2 → ν.2 11 = lN v) := by
  rcases h with ⟨a, e⟩ | ⟨a, e, e2⟩ | ⟨a, e⟩ | ⟨a, b, e, _⟩ | ⟨a, e⟩
  · rw [e]; exact ⟨⟨fun z => absurd z (by decide), fun z => by omega⟩, fun z => by omega⟩
  · exact ⟨⟨fun _ => a, fun _ => e⟩, fun _ => e2⟩
  · rw [e]; exact ⟨⟨fun z => absurd z (by decide), fun z => by omega⟩, fun z => by omega⟩
  · rw [e]; exact ⟨⟨fun z => absurd z (by decide), fun z => by omega⟩, fun z => by omega⟩
  · rcases e with e | ⟨e, _⟩
    · rw [e]; exact ⟨⟨fun z => absurd z (by decide), fun z => by omega⟩, fun z => by omega⟩
    · rw [e]; exact ⟨⟨fun z => absurd z (by decide), fun z => by omega⟩, fun z => by omega⟩
theorem TokM.semi {ν : Mem} {k v : Nat} (h : TokM ν k v) : ν.1 0 10 = 4 ↔ k = 3 := by
  rcases h with ⟨a, e⟩ | ⟨a, e, _⟩ | ⟨a, e⟩ | ⟨a, b, e, _⟩ | ⟨a, e⟩
  · rw [e]; exact ⟨fun z => absurd z (by decide), fun z => by omega⟩
  · rw [e]; exact ⟨fun z => absurd z (by decide), fun z => by omega⟩
  · exact ⟨fun _ => a, fun _ => e⟩
  · rw [e]; exact ⟨fun z => absurd z (by decide), fun z => by omega⟩
  · rcases e with e | ⟨e, _⟩
    · rw [e]; exact ⟨fun z => absurd z (by decide), fun z => by omega⟩
    · rw [e]; exact ⟨fun z => absurd z (by decide), fun z => by omega⟩
theorem FA.mk {μ ν : Mem} {c : Nat → Nat} {L p : Nat} (hT : MT ν c L) (hp : p ≤ L) (h5 : μ.1 14 5 = nI (sk' c L p)) (hC : CS ν c L p) : FA μ ν L := by
  refine ⟨sk' c L p, (skq_le c hp).2, h5, ?_⟩
  by_cases e : ν.1 0 10 = 1
  · rw [if_pos e, hT.2.1, kd_end.mp (hC.2.2.one.mp e)]
  · rw [if_neg e]; exact hC.1
/-- what an item changes -/
def GC (μ μ1 : Mem) : Prop := (∀ k, k ≠ 14 → k ≠ 15 → μ1.1 k = μ.1 k) ∧ ∀ j, (j < 4 ∨ 7 < j) → μ1.1 14 j = μ.1 14 j
def GM (ν ν1 : Mem) : Prop := (∀ k, k ≠ 0 → k ≠ 7 → ν1.1 k = ν.1 k) ∧ (∀ j, (j < 8 ∨ 13 < j) → ν1.1 0 j = ν.1 0 j) ∧ ∀ j, j ≠ 11 → ν1.2 j = ν.2 j
theorem GC.of {a b : Mem} (h : FC a b) : GC a b := ⟨fun k q _ => h.1 k q, h.2⟩
theorem GM.of {a b : Mem} (h : FM a b) : GM a b := ⟨fun k q _ => h.1 k q, fun j q => h.2.1 j (by omega), h.2.2⟩
theorem GC.tr {a b c : Mem} (h1 : GC a b) (h2 : GC b c) : GC a c := ⟨fun k q r => (h2.1 k q r).trans (h1.1 k q r), fun k q => (h2.2 k q).trans (h1.2 k q)⟩
theorem GM.tr {a b c : Mem} (h1 : GM a b) (h2 : GM b c) : GM a c := ⟨fun k q r => (h2.1 k q r).trans (h1.1 k q r), fun k q => (h2.2.1 k q).trans (h1.2.1 k q), fun k q => (h2.2.2 k q).trans (h1.2.2 k q)⟩
theorem GC.st {μ : Mem} {j : Nat} {v : Int32} : GC μ (stI μ 15 j v) := ⟨fun k _ q => stI_ne _ _ _ q, fun i q => by rw [stI_ne _ _ _ (by decide)]⟩
theorem GM.st {ν : Mem} {j : Nat} {v : Int32} : GM ν (stI ν 7 j v) := ⟨fun k _ q => stI_ne _ _ _ q, fun i q => by rw [stI_ne _ _ _ (by decide)], fun _ _ => rfl⟩
theorem GM.s0 {ν : Mem} {j : Nat} {v : Int32} (h : 8 ≤ j ∧ j ≤ 13) : GM ν (stI ν 0 j v) := ⟨fun k q _ => stI_ne _ _ _ q, fun i q => by rw [stI_same, upd_ne _ _ (by omega)], fun _ _ => rfl⟩
theorem GC.ct {μ μ1 : Mem} {c : Nat → Nat} {L : Nat} (h : GC μ μ1) (g : CT μ c L) : CT μ1 c L := ⟨g.1, (h.2 3 (by omega)).trans g.2.1, fun j q => by rw [h.1 13 (by decide) (by decide)]; exact g.2.2 j q⟩
theorem GM.mt {ν ν1 : Mem} {c : Nat → Nat} {L : Nat} (h : GM ν ν1) (g : MT ν c L) : MT ν1 c L := ⟨g.1, (h.2.1 7 (by omega)).trans g.2.1, fun j q => by rw [h.1 6 (by decide) (by decide)]; exact g.2.2 j q⟩
def cnt (w : Nat) : Nat := if w = 5 then 4 else if w = 8 then 2 else 1
theorem cnt_le (w : Nat) : 1 ≤ cnt w ∧ cnt w ≤ 4 := by unfold cnt; split <;> (try split) <;> omega
theorem C_cnt {w : Nat} (h : w ≤ 9) : F_R_numbersOf (nI w) = some (nI (cnt w)) := by
  rcases (show w = 0 ∨ w = 1 ∨ w = 2 ∨ w = 3 ∨ w = 4 ∨ w = 5 ∨ w = 6 ∨ w = 7 ∨ w = 8 ∨ w = 9 by omega) with rfl | rfl | rfl | rfl | rfl | rfl | rfl | rfl | rfl | rfl <;> rfl
