/-! Pure part (24): the orders to set up. -/
def bo (t : Nat → Nat) (pr v s st : Nat) : Bool := if pc st % pr = 0 ∨ pc st = t 0 then decide (2 ≤ pc st) && takes t st v s 0 (t 3) else true
def cf (t : Nat → Nat) (pr v s : Nat) : Nat → Nat → Nat
  | 0, _ => 1
  | d + 1, st => fN (fun k => if st.testBit k then 0 else if bo t pr v s (sett st k) then cf t pr v s d (sett st k) else 0) (t 0) 0 0
def cc (t : Nat → Nat) (pr v s st : Nat) : Nat := cf t pr v s (t 0 - pc st) st
theorem pow8 {d : Nat} (h : d ≤ 8) : 8 ^ d ≤ 16777216 := by
  rcases (show d = 0 ∨ d = 1 ∨ d = 2 ∨ d = 3 ∨ d = 4 ∨ d = 5 ∨ d = 6 ∨ d = 7 ∨ d = 8 by omega) with rfl | rfl | rfl | rfl | rfl | rfl | rfl | rfl | rfl <;> decide
theorem cf_le {t : Nat → Nat} (hn : t 0 ≤ 8) (pr v s : Nat) : ∀ d st, cf t pr v s d st ≤ 8 ^ d := by
  intro d
  induction d with
  | zero => intro st; exact Nat.le_refl _
  | succ d ih =>
    intro st
    have h1 := fN_le (fun k => if st.testBit k then 0 else if bo t pr v s (sett st k) then cf t pr v s d (sett st k) else 0) (8 ^ d) (t 0) (fun k _ => by
      show (if st.testBit k then 0 else if bo t pr v s (sett st k) then cf t pr v s d (sett st k) else 0) ≤ 8 ^ d
      have := ih (sett st k)
      split
      · omega
      · split <;> omega) (t 0) 0 0 (by omega)
    have h2 : 8 ^ d * t 0 ≤ 8 ^ d * 8 := Nat.mul_le_mul_left _ hn
    show fN _ (t 0) 0 0 ≤ 8 ^ (d + 1)
    rw [Nat.pow_succ]
    omega
theorem cc_le {t : Nat → Nat} (hn : t 0 ≤ 8) (pr v s st : Nat) : cc t pr v s st ≤ 16777216 := Nat.le_trans (cf_le hn pr v s _ st) (pow8 (by omega))
theorem sett_pc : ∀ s, s < 256 → ∀ k, k < 8 → s.testBit k = false → pc (sett s k) = pc s + 1 := by decide +kernel
theorem sett_gt : ∀ s, s < 256 → ∀ k, k < 8 → s.testBit k = false → s < sett s k := by decide +kernel
theorem pc_fulls : ∀ n, n < 9 → ∀ s, s < 2 ^ n → (pc s = n ↔ s = 2 ^ n - 1) := by decide +kernel
theorem cc_full {t : Nat → Nat} (hn : t 0 ≤ 8) (pr v s : Nat) : cc t pr v s (2 ^ t 0 - 1) = 1 := by
  unfold cc
  rw [pc_full _ (by omega), Nat.sub_self]
  rfl
def cw (t : Nat → Nat) (pr v s st k : Nat) : Nat := if st.testBit k then 0 else if bo t pr v s (sett st k) then cc t pr v s (sett st k) else 0
theorem fN_eq {w w' : Nat → Nat} : ∀ d k a, (∀ j, k ≤ j → j < k + d → w j = w' j) → fN w d k a = fN w' d k a := by
  intro d
  induction d with
  | zero => intro k a _; rfl
  | succ d ih =>
    intro k a h
    show fN w d (k + 1) (a + w k) = fN w' d (k + 1) (a + w' k)
    rw [h k (by omega) (by omega)]
    exact ih _ _ (fun j q r => h j (by omega) (by omega))
theorem cc_sum {t : Nat → Nat} (hn : t 0 ≤ 8) (pr v s : Nat) {st : Nat} (h : st < 2 ^ t 0) (hf : st ≠ 2 ^ t 0 - 1) : cc t pr v s st = fN (cw t pr v s st) (t 0) 0 0 := by
  have h256 : st < 256 := Nat.lt_of_lt_of_le h (pow_le _ hn)
  have h1 : pc st ≤ t 0 := pc_le2 _ (by omega) _ h
  have h2 : pc st ≠ t 0 := fun q => hf ((pc_fulls _ (by omega) _ h).mp q)
  unfold cc
  rw [show t 0 - pc st = (t 0 - pc st - 1) + 1 by omega]
  show fN _ (t 0) 0 0 = _
  refine fN_eq _ _ _ (fun k _ hk => ?_)
  unfold cw cc
  cases hb : st.testBit k with
  | true => rfl
  | false =>
    rw [sett_pc _ h256 _ (by omega) hb, show t 0 - (pc st + 1) = t 0 - pc st - 1 by omega]
theorem M_borne {ν : Mem} {t : Nat → Nat} (h : MS ν t) {pr v s st : Nat} (hp : 1 ≤ pr ∧ pr ≤ 4) (hv : v < 8) (hs : s ≤ 61) (hst : st < 256) : F_M_isBorne ν (nI st) (nI pr) (nI v) (nI s) = some (nI (bo t pr v s st).toNat) := by
  have hn := h.n2
  have h8 := pc_le st hst
  have hz : ¬ nI pr = 0 := fun q => by have := (nI_eq (b := 0) (by omega) (by omega)).mp q; omega
  have hmod : pc st % pr < 2 ^ 31 := Nat.lt_of_lt_of_le (Nat.mod_lt _ (by omega)) (by omega)
  have e1 : F_M_isBorne_29 ν (nI st) (nI v) (nI s) (nI (pc st)) 1 = some (nI (decide (2 ≤ pc st) && takes t st v s 0 (t 3)).toNat) := by
    unfold F_M_isBorne_29
    rw [if_neg (show ¬ (1 : Int32) = 0 by decide), gd_t (by decide), show (3 : Int32).toNatClampNeg = 3 from rfl, h.at 3 (by decide), show F_M_takesNone ν (nI st) (nI v) (nI s) 0 (nI (t 3)) = _ from M_takes h hst hv hs (show 0 < 8 by decide) h.2.2.2.2.2.1, bnd_s]
    by_cases c : 2 ≤ pc st
    · rw [if_neg (show ¬ nI (pc st) ≤ 1 from fun q => by have := (nI_leI (b := 1) (by omega) (by omega)).mp q; omega), decide_eq_true c, Bool.true_and]
      cases takes t st v s 0 (t 3) <;> rfl
    · rw [if_pos (show nI (pc st) ≤ 1 from (nI_leI (b := 1) (by omega) (by omega)).mpr (by omega)), decide_eq_false c, Bool.false_and]
      rfl
  unfold F_M_isBorne F_M_isBorne_24
  rw [pcM _ hst, bnd_s, if_neg hz, nmod (by omega) (by omega), e1, gd_t (by decide), show (0 : Int32).toNatClampNeg = 0 from rfl, h.n]
  unfold bo
  by_cases c1 : pc st % pr = 0
  · rw [if_pos (show nI (pc st % pr) = 0 by rw [c1]; rfl), if_pos (Or.inl c1)]
  · rw [if_neg (show ¬ nI (pc st % pr) = 0 from fun q => c1 ((nI_eq (b := 0) hmod (by omega)).mp q))]
    by_cases c2 : pc st = t 0
    · rw [if_pos (by rw [c2]), if_pos (Or.inr c2)]
    · rw [if_neg (fun q => c2 ((nI_eq (by omega) (by omega)).mp q)), if_neg (fun q => q.elim c1 c2)]
      rfl
