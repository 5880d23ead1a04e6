/-! Pure part (32): the check doubles. -/
theorem stI_back (μ : Mem) (k i j : Nat) (x y : Int32) : stI (stI (stI (stI μ k i x) k j y) k i (μ.1 k i)) k j (μ.1 k j) = μ := by
  refine Prod.ext (funext fun r => ?_) rfl
  rw [stI_row, stI_row, stI_row, stI_row]
  by_cases c : r = k
  · subst c
    rw [if_pos rfl, if_pos rfl, if_pos rfl, if_pos rfl]
    funext l
    rw [upd_at, upd_at, upd_at, upd_at]
    by_cases e : l = j
    · rw [if_pos e, e]
    · rw [if_neg e, if_neg e]
      by_cases e2 : l = i
      · rw [if_pos e2, e2]
      · rw [if_neg e2, if_neg e2]
  · rw [if_neg c, if_neg c, if_neg c, if_neg c]
theorem tD_2 (t : Nat → Nat) {a b : Nat} (ha : a < 8) (hb : b < 8) : tset (tset t (5 + a) 1) (5 + b) 1 = tD t (du a b) := by
  funext j
  unfold tset tD
  by_cases c : 5 ≤ j ∧ j < 13
  · have h1 := du_bit a ha b hb (j - 5) (by omega)
    by_cases e1 : j = 5 + b
    · rw [if_pos e1, if_pos ⟨c.1, c.2, by rw [h1, decide_eq_true (show j - 5 = b by omega), Bool.or_true]⟩]
    · rw [if_neg e1]
      by_cases e2 : j = 5 + a
      · rw [if_pos e2, if_pos ⟨c.1, c.2, by rw [h1, decide_eq_true (show j - 5 = a by omega), Bool.true_or]⟩]
      · rw [if_neg e2, if_neg (fun q => by rw [h1, decide_eq_false (show ¬ j - 5 = a by omega), decide_eq_false (show ¬ j - 5 = b by omega)] at q; exact absurd q.2.2 (by decide))]
  · rw [if_neg (fun q => c (by omega)), if_neg (fun q => c (by omega)), if_neg (fun q => c ⟨q.1, q.2.1⟩)]
theorem M_with {ν : Mem} {t : Nat → Nat} (h : MS ν t) {a b : Nat} (ha : a < 8) (hb : b < 8) : F_M_bearsWith ν (nI a) (nI b) = some (nI (bw t a b), ν) := by
  have e0 : (nI 1 : Int32) = 1 := rfl
  have hT : MS (stI (stI ν 2 (5 + a) 1) 2 (5 + b) 1) (tD t (du a b)) := by
    rw [← tD_2 t ha hb]
    refine ⟨?_, (h.2.set (by omega)).set (by omega)⟩
    have h1 := MF.set (MF.set h.1 (5 + a) 1) (5 + b) 1
    rw [stI_same, stI_same]; exact h1
  have hb' : ∀ v, v < 8 → F_M_bearsBy (stI (stI ν 2 (5 + a) 1) 2 (5 + b) 1) (nI v) = some (nI (bv (tD t (du a b)) (t 1) v 0 (t 3))) := by
    intro v hv
    have := M_bearsBy hT hv
    rw [tD_ne (j := 1) (by omega), tD_ne (j := 3) (by omega)] at this
    exact this
  unfold F_M_bearsWith
  have hw := (wv_spec (fun v => bv (tD t (du a b)) (t 1) v 0 (t 3))).1
  have g1 : ∀ {α : Type} (z : Option α), gd (inb (5 + nI a) 47) z = z := fun z => by rw [show (5 : Int32) = nI 5 from lit 5, nI_add, gd_nI (by omega) (by decide)]
  have g2 : ∀ {α : Type} (z : Option α), gd (inb (5 + nI b) 47) z = z := fun z => by rw [show (5 : Int32) = nI 5 from lit 5, nI_add, gd_nI (by omega) (by decide)]
  have ea : (5 + nI a).toNatClampNeg = 5 + a := by rw [show (5 : Int32) = nI 5 from lit 5, nI_add, nclamp (by omega)]
  have eb : (5 + nI b).toNatClampNeg = 5 + b := by rw [show (5 : Int32) = nI 5 from lit 5, nI_add, nclamp (by omega)]
  simp only [g1, g2, ea, eb]
  rw [M_least hb' (fun v => bv_le _ _ _ _ _), bnd_s, hb' _ hw, bnd_s, ← mn_wv (fun v => bv (tD t (du a b)) (t 1) v 0 (t 3)) (fun v => bv_le _ _ _ _ _)]
  by_cases c : nI a = nI b
  · rw [if_pos c]
    have c' : a = b := (nI_eq (by omega) (by omega)).mp c
    subst c'
    rw [stI_back]; rfl
  · rw [if_neg c, stI_back]; rfl
theorem M_123 {ν : Mem} {t : Nat → Nat} {m a : Nat} (h : MS ν t) (ha : a < 8) (x2 : Int32) (K : Mem → Int32 → Int32 → Int32 → Int32 → Int32 → Int32 → Option (Int32 × Mem)) (g : Mem → Int32 → Int32 → Int32 → Int32 → Int32 → Int32 → Int32 → Option (Int32 × Mem)) {b E : Nat} (hb : b < 8) (hE : E ≤ 9) (hbE : b < E) (hq : (m = 1 ∧ a = b) ∨ (m = 2 ∧ a < b)) (o : Option (Nat × Nat)) : F_M_twofold_123 K g ν (nI m) x2 (ms t o) (pa o) (pb o) (nI a) (nI b) (nI E) (nI b) = g ν (nI m) x2 (ms t (up t m o a b)) (pa (up t m o a b)) (pb (up t m o a b)) (nI a) (nI (b + 1)) := by
  have h256 := h.2.st256
  have q1 : (decide (a = b) == decide (m = 1)) = true := by
    rcases hq with ⟨q, e⟩ | ⟨q, e⟩
    · rw [decide_eq_true e, decide_eq_true q]; rfl
    · rw [decide_eq_false (show ¬ a = b by omega), decide_eq_false (show ¬ m = 1 by omega)]; rfl
  have ek : (1 : Int32).toNatClampNeg = 1 := rfl
  unfold F_M_twofold_123
  rw [if_neg (fun q => by have := (nI_leI (by omega) (by omega)).mp q; omega), gd_t (by decide), ek, h.at 1 (by decide), hasM _ h256 _ ha, bnd_s, nI_1]
  unfold up al
  rw [q1, Bool.and_true]
  cases c1 : (t 1).testBit a with
  | false => rw [if_pos (by decide), Bool.false_and]; rfl
  | true =>
    rw [if_neg (by decide), gd_t (by decide), hasM _ h256 _ hb, bnd_s, Bool.true_and]
    cases c2 : (t 1).testBit b with
    | false => rw [if_pos (by decide)]; rfl
    | true =>
      rw [if_neg (by decide), if_pos rfl, M_with h ha hb, bnd_s]
      unfold F_M_twofold_177 F_M_twofold_192
      by_cases c3 : nI (bw t a b) ≤ ms t o
      · rw [if_pos c3]
        show (if nI (bw t a b) ≤ ms t o then _ else _) = _
        rw [if_pos c3, if_pos c3, if_pos c3, nI_1]
      · rw [if_neg c3]
        show (if nI (bw t a b) ≤ ms t o then _ else _) = _
        rw [if_neg c3, if_neg c3, if_neg c3, nI_1]
        rfl
