/-! Pure part (1): numbers, bits, memory. -/
theorem lit (n : Nat) : (OfNat.ofNat n : Int32) = nI n := Int32.toInt_inj.mp rfl
theorem nmul (a b : Nat) : nI a * nI b = nI (a * b) := (Int32.ofNat_mul a b).symm
theorem nsub {a b : Nat} (h : b ≤ a) : nI a - nI b = nI (a - b) := by
  have h1 : nI a = nI (a - b) + nI b := by rw [nI_add, Nat.sub_add_cancel h]
  rw [h1, Int32.add_sub_cancel]
theorem ndiv {a b : Nat} (ha : a < 2 ^ 31) (hb : b < 2 ^ 31) : nI a / nI b = nI (a / b) := by
  have h0 : a / b < 2 ^ 31 := Nat.lt_of_le_of_lt (Nat.div_le_self a b) ha
  apply Int32.toInt_inj.mp
  rw [Int32.toInt_div, nI_toInt ha, nI_toInt hb, nI_toInt h0, ← Int.ofNat_tdiv]
  generalize a / b = q at h0 ⊢
  exact Int.bmod_eq_of_le (by omega) (by omega)
theorem nmod {a b : Nat} (ha : a < 2 ^ 31) (hb : b < 2 ^ 31) : nI a - nI a / nI b * nI b = nI (a % b) := by
  rw [ndiv ha hb, nmul, nsub (Nat.div_mul_le_self a b)]
  congr 1
  have := Nat.mod_add_div a b
  rw [Nat.mul_comm] at this
  omega
theorem nclamp {n : Nat} (h : n < 2 ^ 31) : (nI n).toNatClampNeg = n := nI_clamp h
theorem inb_nI {a N : Nat} (h : a < N) (hN : N < 2 ^ 31) : inb (nI a) N = true := by
  unfold inb
  exact decide_eq_true (nI_in h hN)
theorem gd_t {α : Type} {b : Bool} (h : b = true) (k : Option α) : gd b k = k := by rw [h]; rfl
theorem gd_nI {α : Type} {a N : Nat} (h : a < N) (hN : N < 2 ^ 31) (k : Option α) : gd (inb (nI a) N) k = k := gd_t (inb_nI h hN) k
theorem bnd_s {α β : Type} (v : α) (k : α → Option β) : bnd (some v) k = k v := rfl
theorem iter_succ {α : Type} (f : α → α) (z : α) (n : Nat) : iter f z (n + 1) = f (iter f z n) := rfl
theorem iter_run {α : Type} {f : α → α} {z : α} (P : Nat → α → Prop) (h0 : ∀ g, P 0 (f g)) (hs : ∀ d g, P d g → P (d + 1) (f g)) : ∀ n d, d < n → P d (iter f z n) := by
  intro n
  induction n with
  | zero => intro d h; omega
  | succ n ih =>
    intro d h
    rw [iter_succ]
    cases d with
    | zero => exact h0 _
    | succ d => exact hs d _ (ih d (by omega))
theorem NF_lt {d : Nat} (h : d < 1000) : d < NF := h
/-! memory -/
theorem stI_row (μ : Mem) (k j : Nat) (v : Int32) (k1 : Nat) : (stI μ k j v).1 k1 = if k1 = k then upd (μ.1 k1) j v else μ.1 k1 := by
  show cond (Nat.beq k1 k) _ _ = _
  by_cases h : k1 = k
  · subst h; simp
  · rw [if_neg h, show Nat.beq k1 k = false from by
      cases hq : Nat.beq k1 k with
      | false => rfl
      | true => exact absurd (Nat.eq_of_beq_eq_true hq) h]
    rfl
theorem stI_same (μ : Mem) (k j : Nat) (v : Int32) : (stI μ k j v).1 k = upd (μ.1 k) j v := by rw [stI_row, if_pos rfl]
theorem stI_ne (μ : Mem) {k k1 : Nat} (j : Nat) (v : Int32) (h : k1 ≠ k) : (stI μ k j v).1 k1 = μ.1 k1 := by rw [stI_row, if_neg h]
theorem stI_2 (μ : Mem) (k j : Nat) (v : Int32) : (stI μ k j v).2 = μ.2 := rfl
theorem upd_same (f : Nat → Int32) (j : Nat) (v : Int32) : upd f j v j = v := by simp [upd]
theorem upd_ne (f : Nat → Int32) {j i : Nat} (v : Int32) (h : i ≠ j) : upd f j v i = f i := by simp [upd, h]
theorem upd_at (f : Nat → Int32) (j i : Nat) (v : Int32) : upd f j v i = if i = j then v else f i := rfl
theorem stL_1 (μ : Mem) (j : Nat) (v : Int64) : (stL μ j v).1 = μ.1 := rfl
theorem stL_2 (μ : Mem) (j : Nat) (v : Int64) (i : Nat) : (stL μ j v).2 i = if i = j then v else μ.2 i := rfl
theorem stR_row (μ : Mem) (k : Nat) (f : Nat → Int32) (k1 : Nat) : (stR μ k f).1 k1 = if k1 = k then f else μ.1 k1 := by
  show cond (Nat.beq k1 k) _ _ = _
  by_cases h : k1 = k
  · subst h; simp
  · rw [if_neg h, show Nat.beq k1 k = false from by
      cases hq : Nat.beq k1 k with
      | false => rfl
      | true => exact absurd (Nat.eq_of_beq_eq_true hq) h]
    rfl
theorem sub_row (b : Nat) (μ : Mem) (k : Nat) : (sub b μ).1 k = μ.1 (b + k) := rfl
theorem put6_in (b d : Nat) (μ φ : Mem) {k : Nat} (h : k < 6) : (put6 b d μ φ).1 (b + k) = φ.1 (k + d) := by
  show cond (Nat.ble b (b + k) && Nat.blt (b + k) (b + 6)) _ _ = _
  rw [show Nat.ble b (b + k) = true from Nat.ble_eq.mpr (by omega), show Nat.blt (b + k) (b + 6) = true from Nat.ble_eq.mpr (by omega), Nat.add_sub_cancel_left]
  rfl
theorem put6_out (b d : Nat) (μ φ : Mem) {k : Nat} (h : k < b ∨ b + 6 ≤ k) : (put6 b d μ φ).1 k = μ.1 k := by
  show cond (Nat.ble b k && Nat.blt k (b + 6)) _ _ = _
  have : (Nat.ble b k && Nat.blt k (b + 6)) = false := by
    rw [Bool.and_eq_false_iff]
    rcases h with h | h
    · left; rw [Bool.eq_false_iff]; intro q; have := Nat.ble_eq.mp q; omega
    · right; rw [Bool.eq_false_iff]; intro q; have : k + 1 ≤ b + 6 := Nat.ble_eq.mp q; omega
  rw [this]; rfl
/-! bits -/
theorem hasT : ∀ s, s < 256 → ∀ k, k < 8 → F_T_has (nI s) (nI k) = some (nI (s.testBit k).toNat) := by decide +kernel
theorem hasM : ∀ s, s < 256 → ∀ k, k < 8 → F_M_has (nI s) (nI k) = some (nI (s.testBit k).toNat) := by decide +kernel
theorem shrM : ∀ s, s < 256 → ∀ k, k < 8 → (nI s >>> (nI k &&& 31)) &&& 1 = nI (s.testBit k).toNat := by decide +kernel
def clr (s k : Nat) : Nat := if s.testBit k then s - 2 ^ k else s
def sett (s k : Nat) : Nat := if s.testBit k then s else s + 2 ^ k
def tog (s k : Nat) : Nat := if s.testBit k then s - 2 ^ k else s + 2 ^ k
theorem with0 : ∀ s, s < 256 → ∀ k, k < 8 → F_T_with (nI s) (nI k) 0 = some (nI (clr s k)) := by decide +kernel
theorem with1 : ∀ s, s < 256 → ∀ k, k < 8 → F_T_with (nI s) (nI k) 1 = some (nI (sett s k)) := by decide +kernel
theorem xorM : ∀ s, s < 256 → ∀ k, k < 8 → nI s ^^^ (1 <<< (nI k &&& 31)) = nI (tog s k) := by decide +kernel
theorem orM : ∀ s, s < 256 → ∀ k, k < 8 → nI s ||| (1 <<< (nI k &&& 31)) = nI (sett s k) := by decide +kernel
theorem andnM : ∀ s, s < 256 → ∀ k, k < 8 → nI s &&& ((1 <<< (nI k &&& 31)) ^^^ (-1)) = nI (clr s k) := by decide +kernel
theorem clr_lt : ∀ s, s < 256 → ∀ k, k < 8 → clr s k < 256 := by decide +kernel
theorem sett_lt : ∀ s, s < 256 → ∀ k, k < 8 → sett s k < 256 := by decide +kernel
theorem clr_bit : ∀ s, s < 256 → ∀ k, k < 8 → ∀ j, j < 8 → (clr s k).testBit j = (s.testBit j && decide (j ≠ k)) := by decide +kernel
def pc (s : Nat) : Nat := (s.testBit 0).toNat + (s.testBit 1).toNat + (s.testBit 2).toNat + (s.testBit 3).toNat + (s.testBit 4).toNat + (s.testBit 5).toNat + (s.testBit 6).toNat + (s.testBit 7).toNat
theorem pcT : ∀ s, s < 256 → F_JI_bitCount (nI s) = some (nI (pc s)) := by decide +kernel
theorem pcM : ∀ s, s < 256 → F_M_bits (nI s) = some (nI (pc s)) := by decide +kernel
theorem clr_pc : ∀ s, s < 256 → ∀ k, k < 8 → s.testBit k = true → pc (clr s k) + 1 = pc s := by decide +kernel
theorem pc_le : ∀ s, s < 256 → pc s ≤ 8 := by decide +kernel
theorem pc_0 : ∀ s, s < 256 → (pc s = 0 ↔ s = 0) := by decide +kernel
theorem pow_le (n : Nat) (h : n ≤ 8) : 2 ^ n ≤ 256 := by
  rcases (show n = 0 ∨ n = 1 ∨ n = 2 ∨ n = 3 ∨ n = 4 ∨ n = 5 ∨ n = 6 ∨ n = 7 ∨ n = 8 by omega) with rfl | rfl | rfl | rfl | rfl | rfl | rfl | rfl | rfl <;> decide
theorem clr_lt2 : ∀ n, n < 9 → ∀ s, s < 2 ^ n → ∀ k, k < n → clr s k < 2 ^ n := by decide +kernel
theorem sett_lt2 : ∀ n, n < 9 → ∀ s, s < 2 ^ n → ∀ k, k < n → sett s k < 2 ^ n := by decide +kernel
theorem pc_le2 : ∀ n, n < 9 → ∀ s, s < 2 ^ n → pc s ≤ n := by decide +kernel
