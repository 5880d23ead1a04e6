/-! Pure part (30): whom to double. -/
def du (a b : Nat) : Nat := sett (2 ^ a) b
theorem duI : ∀ a, a < 8 → ∀ b, b < 8 → (1 <<< (nI a &&& 31)) ||| (1 <<< (nI b &&& 31)) = nI (du a b) := by decide +kernel
theorem du_lt : ∀ a, a < 8 → ∀ b, b < 8 → du a b < 256 := by decide +kernel
theorem du_pc : ∀ a, a < 8 → ∀ b, b < 8 → pc (du a b) = if a = b then 1 else 2 := by decide +kernel
theorem du_bit : ∀ a, a < 8 → ∀ b, b < 8 → ∀ k, k < 8 → (du a b).testBit k = (decide (k = a) || decide (k = b)) := by decide +kernel
theorem du_sub : ∀ a, a < 8 → ∀ b, b < 8 → ∀ st, st < 256 → decide (nI (du a b) &&& (nI st ^^^ -1) = 0) = (st.testBit a && st.testBit b) := by decide +kernel
theorem du_0 : ∀ a, a < 8 → ∀ b, b < 8 → a ≤ b → F_P_memberOf (nI (du a b)) 0 = some (nI a) := by decide +kernel
theorem du_1 : ∀ a, a < 8 → ∀ b, b < 8 → a < b → F_P_memberOf (nI (du a b)) 1 = some (nI b) := by decide +kernel
theorem pc_1 : ∀ st, st < 256 → 1 ≤ pc st → ∃ a, a < 8 ∧ st.testBit a = true := by decide +kernel
theorem pc_2 : ∀ st, st < 256 → 2 ≤ pc st → ∃ a, a < 8 ∧ ∃ b, b < 8 ∧ a < b ∧ st.testBit a = true ∧ st.testBit b = true := by decide +kernel
/-- how much it bears with the two doubled -/
def bw (t : Nat → Nat) (a b : Nat) : Nat := mn (fun v => bv (tD t (du a b)) (t 1) v 0 (t 3)) 8 0 60
theorem bw_le (t : Nat → Nat) (a b : Nat) : bw t a b ≤ 60 := (mn_spec _ 8 0 60).1
def al (m st a b : Nat) : Bool := st.testBit a && st.testBit b && (decide (a = b) == decide (m = 1))
def ms (t : Nat → Nat) : Option (Nat × Nat) → Int32
  | none => -1
  | some p => nI (bw t p.1 p.2)
def sB : Option (Nat × Nat) → Int32
  | none => 0
  | some p => nI (du p.1 p.2)
def pa : Option (Nat × Nat) → Int32
  | none => -1
  | some p => nI p.1
def pb : Option (Nat × Nat) → Int32
  | none => -1
  | some p => nI p.2
def up (t : Nat → Nat) (m : Nat) (o : Option (Nat × Nat)) (a b : Nat) : Option (Nat × Nat) := if al m (t 1) a b = true then (if nI (bw t a b) ≤ ms t o then o else some (a, b)) else o
def ti (t : Nat → Nat) (m a : Nat) : Nat → Nat → Option (Nat × Nat) → Option (Nat × Nat)
  | 0, _, o => o
  | d + 1, b, o => ti t m a d (b + 1) (up t m o a b)
def to' (t : Nat → Nat) (m : Nat) : Nat → Nat → Option (Nat × Nat) → Option (Nat × Nat)
  | 0, _, o => o
  | d + 1, a, o => to' t m d (a + 1) (ti t m a (t 0 - a) a o)
theorem ti_no {t : Nat → Nat} {m a : Nat} : ∀ d b o, (∀ j, b ≤ j → al m (t 1) a j = false) → ti t m a d b o = o := by
  intro d
  induction d with
  | zero => intro b o _; rfl
  | succ d ih =>
    intro b o h
    show ti t m a d (b + 1) (up t m o a b) = o
    have e : up t m o a b = o := by
      unfold up
      rw [h b (Nat.le_refl _)]; rfl
    rw [e]
    exact ih _ _ (fun j q => h j (by omega))
/-- what is kept is allowed -/
def Ok (t : Nat → Nat) (m : Nat) (o : Option (Nat × Nat)) : Prop := ∀ a b, o = some (a, b) → a ≤ b ∧ b < t 0 ∧ al m (t 1) a b = true
theorem up_ok {t : Nat → Nat} {m a b : Nat} {o : Option (Nat × Nat)} (h : Ok t m o) (hab : a ≤ b) (hb : b < t 0) : Ok t m (up t m o a b) := by
  intro x y e
  unfold up at e
  by_cases c : al m (t 1) a b = true
  · rw [if_pos c] at e
    by_cases c2 : nI (bw t a b) ≤ ms t o
    · rw [if_pos c2] at e; exact h x y e
    · rw [if_neg c2] at e
      cases e
      exact ⟨hab, hb, c⟩
  · rw [if_neg c] at e; exact h x y e
theorem ti_ok {t : Nat → Nat} {m a : Nat} : ∀ d b o, Ok t m o → a ≤ b → b + d ≤ t 0 → Ok t m (ti t m a d b o) := by
  intro d
  induction d with
  | zero => intro b o h _ _; exact h
  | succ d ih => intro b o h h1 h2; exact ih (b + 1) _ (up_ok h h1 (by omega)) (by omega) (by omega)
theorem to_ok {t : Nat → Nat} {m : Nat} : ∀ d a o, Ok t m o → a + d ≤ t 0 → Ok t m (to' t m d a o) := by
  intro d
  induction d with
  | zero => intro a o h _; exact h
  | succ d ih => intro a o h h1; exact ih (a + 1) _ (ti_ok _ _ _ h (Nat.le_refl _) (by omega)) (by omega)
theorem up_some {t : Nat → Nat} {m a b : Nat} {o : Option (Nat × Nat)} (h : o ≠ none ∨ al m (t 1) a b = true) : up t m o a b ≠ none := by
  unfold up
  by_cases c : al m (t 1) a b = true
  · rw [if_pos c]
    cases o with
    | none =>
      rw [if_neg (show ¬ nI (bw t a b) ≤ ms t none from fun q => by
        have h1 := Int32.le_iff_toInt_le.mp (show nI (bw t a b) ≤ (-1 : Int32) from q)
        rw [nI_toInt (by have := bw_le t a b; omega)] at h1
        have h2 : (-1 : Int32).toInt = -1 := by decide
        omega)]
      exact fun q => by cases q
    | some p => split <;> exact fun q => by cases q
  · rw [if_neg c]; exact h.elim id (fun q => absurd q c)
theorem ti_some {t : Nat → Nat} {m a : Nat} : ∀ d b o, (o ≠ none ∨ ∃ j, b ≤ j ∧ j < b + d ∧ al m (t 1) a j = true) → ti t m a d b o ≠ none := by
  intro d
  induction d with
  | zero => intro b o h; exact h.elim id (fun ⟨j, q1, q2, _⟩ => absurd q2 (by omega))
  | succ d ih =>
    intro b o h
    refine ih (b + 1) _ ?_
    rcases h with h | ⟨j, q1, q2, q3⟩
    · exact Or.inl (up_some (Or.inl h))
    · by_cases c : j = b
      · subst c; exact Or.inl (up_some (Or.inr q3))
      · exact Or.inr ⟨j, by omega, by omega, q3⟩
theorem to_some {t : Nat → Nat} {m : Nat} : ∀ d a o, (o ≠ none ∨ ∃ i j, a ≤ i ∧ i < a + d ∧ i ≤ j ∧ j < t 0 ∧ al m (t 1) i j = true) → to' t m d a o ≠ none := by
  intro d
  induction d with
  | zero => intro a o h; exact h.elim id (fun ⟨i, j, q1, q2, _⟩ => absurd q2 (by omega))
  | succ d ih =>
    intro a o h
    refine ih (a + 1) _ ?_
    rcases h with h | ⟨i, j, q1, q2, q3, q4, q5⟩
    · exact Or.inl (ti_some _ _ _ (Or.inl h))
    · by_cases c : i = a
      · subst c; exact Or.inl (ti_some _ _ _ (Or.inr ⟨j, q3, by omega, q5⟩))
      · exact Or.inr ⟨i, j, by omega, by omega, q3, q4, q5⟩
