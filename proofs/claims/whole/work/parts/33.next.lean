/-! Pure part (4): which goes next, who stands beside. -/
def bI : Option Nat → Int32
  | none => -1
  | some k => nI k
def nxF (t : Nat → Nat) (st : Nat) (pl : Nat → Nat) : Nat → Nat → Option Nat → Nat → Option Nat
  | 0, _, b, _ => b
  | d + 1, k, b, m => if (if st.testBit k then pl k - holds t st k else 0) ≤ m then nxF t st pl d (k + 1) b m else nxF t st pl d (k + 1) (some k) (pl k - holds t st k)
def nx (t : Nat → Nat) (st : Nat) (pl : Nat → Nat) : Option Nat := nxF t st pl (t 0) 0 none 0
theorem nxF_some {t : Nat → Nat} {st : Nat} {pl : Nat → Nat} : ∀ (d k : Nat) (b : Option Nat) (m x : Nat), nxF t st pl d k b m = some x → b = some x ∨ (k ≤ x ∧ x < k + d ∧ st.testBit x = true) := by
  intro d
  induction d with
  | zero => intro k b m x h; exact Or.inl h
  | succ d ih =>
    intro k b m x h
    unfold nxF at h
    by_cases hb : st.testBit k = true
    · rw [if_pos hb] at h
      by_cases hc : pl k - holds t st k ≤ m
      · rw [if_pos hc] at h
        rcases ih _ _ _ _ h with q | ⟨q1, q2, q3⟩
        · exact Or.inl q
        · exact Or.inr ⟨by omega, by omega, q3⟩
      · rw [if_neg hc] at h
        rcases ih _ _ _ _ h with q | ⟨q1, q2, q3⟩
        · cases q; exact Or.inr ⟨Nat.le_refl _, by omega, hb⟩
        · exact Or.inr ⟨by omega, by omega, q3⟩
    · rw [if_neg hb, if_pos (Nat.zero_le _)] at h
      rcases ih _ _ _ _ h with q | ⟨q1, q2, q3⟩
      · exact Or.inl q
      · exact Or.inr ⟨by omega, by omega, q3⟩
theorem nx_some {t : Nat → Nat} {st : Nat} {pl : Nat → Nat} {x : Nat} (h : nx t st pl = some x) : x < t 0 ∧ st.testBit x = true := by
  rcases nxF_some _ _ _ _ _ h with q | ⟨q1, q2, q3⟩
  · cases q
  · exact ⟨by omega, q3⟩
theorem sub_le {a b m : Nat} (ha : a < 2 ^ 30) (hb : b < 2 ^ 30) (hm : m < 2 ^ 30) : nI a - nI b ≤ nI m ↔ a - b ≤ m := by
  rw [Int32.le_iff_toInt_le, Int32.toInt_sub, nI_toInt (by omega), nI_toInt (by omega), nI_toInt (by omega), Int.bmod_eq_of_le (by omega) (by omega)]
  omega
theorem neg1_ne {k : Nat} (h : k < 2 ^ 30) : ¬ nI k = -1 := by
  intro q
  have h1 := congrArg Int32.toInt q
  rw [nI_toInt (by omega), show (-1 : Int32).toInt = -1 from rfl] at h1
  omega
/-- the pulls in a row of memory -/
def PL (n : Nat) (f : Nat → Int32) (pl : Nat → Nat) (B : Nat) : Prop := ∀ k, k < n → f k = nI (pl k) ∧ pl k ≤ B
section NX
variable {μ : Mem} {t : Nat → Nat} {st wl r : Nat}
theorem tD_0 (t : Nat → Nat) : tD t 0 = t := by
  funext j
  unfold tD
  rw [if_neg (fun q => by simp at q)]
theorem C_next (h : GS μ t st wl r 0) {pl : Nat → Nat} {B : Nat} (hB : B ≤ 10000000) (hpl : PL (t 0) (μ.1 8) pl B) : F_G_nextToGo μ = some (bI (nx t st pl)) := by
  have hn := h.n2
  unfold F_G_nextToGo F_G_nextToGo_6 nx
  have key := iter_run (f := S_G_nextToGo_6) (z := fun _ _ _ _ => none) (fun d g => ∀ k b m, k + d = t 0 → m ≤ 10000000 → g μ (bI b) (nI m) (nI k) = some (bI (nxF t st pl d k b m))) (fun g k b m hk hm => ?_) (fun d g ih k b m hk hm => ?_) NF (t 0) (NF_lt (by omega)) 0 none 0 (by omega) (by omega)
  · exact key
  · unfold S_G_nextToGo_6
    rw [h.pegs, if_pos ((nI_leI (by omega) (by omega)).mpr (by omega))]
    rfl
  · have hp := hpl k (by omega)
    have hh : holds t st k ≤ 150 := by have := h.hold_le (k := k) (by omega); rwa [tD_0] at this
    have hC := C_holds h (k := k) (by omega)
    rw [tD_0] at hC
    unfold S_G_nextToGo_6 F_G_nextToGo_44 nxF
    rw [h.pegs, if_neg (fun q => by have := (nI_leI (by omega) (by omega)).mp q; omega), hasS h (by omega), bnd_s, gd_nI (by omega) (by decide), nclamp (by omega), hC, bnd_s, hp.1, lit 1, nI_add]
    cases hb : st.testBit k with
    | false =>
      rw [if_pos (by decide)]
      simp only [Bool.false_eq_true, if_false]
      rw [if_pos (Nat.zero_le _), if_pos (by rw [lit 0, nI_leI (by omega) (by omega)]; omega)]
      exact ih _ _ _ (by omega) hm
    | true =>
      rw [if_neg (by decide), if_pos rfl]
      by_cases hc : pl k - holds t st k ≤ m
      · rw [if_pos hc, if_pos ((sub_le (by omega) (by omega) (by omega)).mpr hc)]
        exact ih _ _ _ (by omega) hm
      · rw [if_neg hc, if_neg (fun q => hc ((sub_le (by omega) (by omega) (by omega)).mp q)), nsub (by omega)]
        exact ih _ (some k) _ (by omega) (by omega)
end NX
section NXM
variable {ν : Mem} {t : Nat → Nat} {st : Nat}
theorem M_next (h : MS ν t) (hst : st < 256) {pl : Nat → Nat} {B : Nat} (hB : B ≤ 10000000) (hpl : PL (t 0) (ν.1 8) pl B) : F_M_mostOf ν (nI st) = some (bI (nx t st pl)) := by
  have hn := h.n2
  unfold F_M_mostOf F_M_mostOf_7 nx
  have key := iter_run (f := S_M_mostOf_7) (z := fun _ _ _ _ _ => none) (fun d g => ∀ k b m, k + d = t 0 → m ≤ 10000000 → g ν (nI st) (bI b) (nI m) (nI k) = some (bI (nxF t st pl d k b m))) (fun g k b m hk hm => ?_) (fun d g ih k b m hk hm => ?_) NF (t 0) (NF_lt (by omega)) 0 none 0 (by omega) (by omega)
  · exact key
  · unfold S_M_mostOf_7
    simp only [lit]
    rw [gd_nI (by decide) (by decide), nclamp (by decide), h.n, if_pos ((nI_leI (by omega) (by omega)).mpr (by omega))]
    rfl
  · have hp := hpl k (by omega)
    have hh : holds t st k ≤ 150 := h.hold_le (by omega)
    unfold S_M_mostOf_7 F_M_mostOf_46 F_M_mostOf_60 nxF
    simp only [lit]
    rw [gd_nI (by decide) (by decide), nclamp (by decide), h.n, if_neg (fun q => by have := (nI_leI (by omega) (by omega)).mp q; omega), hasM st hst _ (by omega), bnd_s, gd_nI (by omega) (by decide), nclamp (by omega), M_holds h (by omega) hst, bnd_s, hp.1, nI_add]
    cases hb : st.testBit k with
    | false =>
      have hz : nI 0 ≤ nI m := (nI_leI (by omega) (by omega)).mpr (Nat.zero_le _)
      rw [if_pos (by decide)]
      simp only [Bool.false_eq_true, if_false]
      rw [if_pos (Nat.zero_le _), if_pos hz, if_pos hz]
      exact ih _ _ _ (by omega) hm
    | true =>
      rw [if_neg (by decide), if_pos rfl]
      by_cases hc : pl k - holds t st k ≤ m
      · have hz : nI (pl k) - nI (holds t st k) ≤ nI m := (sub_le (by omega) (by omega) (by omega)).mpr hc
        rw [if_pos hc, if_pos hz, if_pos hz]
        exact ih _ _ _ (by omega) hm
      · have hz : ¬ nI (pl k) - nI (holds t st k) ≤ nI m := fun q => hc ((sub_le (by omega) (by omega) (by omega)).mp q)
        rw [if_neg hc, if_neg hz, if_neg hz, nsub (by omega)]
        exact ih _ (some k) _ (by omega) (by omega)
end NXM
/-! who stands beside -/
def sbF (n st : Nat) : Nat → Nat → Nat
  | 0, a => a
  | d + 1, a => if st.testBit a then a else sbF n st d (bhd n a)
def saF (n st : Nat) : Nat → Nat → Nat
  | 0, a => a
  | d + 1, a => if st.testBit a then a else saF n st d (ahd n a)
def sb (n st k : Nat) : Nat := sbF n st n (bhd n k)
def sa (n st k : Nat) : Nat := saF n st n (ahd n k)
theorem sb_bit : ∀ n, n < 9 → ∀ st, st < 2 ^ n → st ≠ 0 → ∀ k, k < n → st.testBit (sb n st k) = true ∧ sb n st k < n := by decide +kernel
theorem sa_bit : ∀ n, n < 9 → ∀ st, st < 2 ^ n → st ≠ 0 → ∀ k, k < n → st.testBit (sa n st k) = true ∧ sa n st k < n := by decide +kernel
section BES
variable {μ : Mem} {t : Nat → Nat} {st wl r db : Nat}
theorem C_sb (h : GS μ t st wl r db) {k : Nat} (hk : k < t 0) : F_G_standingBehind μ (nI k) = some (nI (sb (t 0) st k)) := by
  have hn := h.n2
  have hb := bhd_lt hk
  unfold F_G_standingBehind F_G_standingBehind_8 sb
  rw [C_behind h (by omega), bnd_s]
  have key := iter_run (f := S_G_standingBehind_8) (z := fun _ _ _ => none) (fun d g => ∀ a x, x + d = t 0 → a < t 0 → g μ (nI a) (nI x) = some (nI (sbF (t 0) st d a))) (fun g a x hx ha => ?_) (fun d g ih a x hx ha => ?_) NF (t 0) (NF_lt (by omega)) (bhd (t 0) k) 0 (by omega) hb
  · exact key
  · unfold S_G_standingBehind_8
    rw [h.pegs, if_pos ((nI_leI (by omega) (by omega)).mpr (by omega))]
    rfl
  · have hb2 := bhd_lt ha
    unfold S_G_standingBehind_8 sbF
    rw [h.pegs, if_neg (fun q => by have := (nI_leI (by omega) (by omega)).mp q; omega), hasS h (by omega), bnd_s, C_behind h (by omega), bnd_s, lit 1, nI_add, ih _ _ (by omega) hb2]
    cases st.testBit a <;> rfl
theorem C_sa (h : GS μ t st wl r db) {k : Nat} (hk : k < t 0) : F_G_standingAheadOf μ (nI k) = some (nI (sa (t 0) st k)) := by
  have hn := h.n2
  have hb := ahd_lt hk
  unfold F_G_standingAheadOf F_G_standingAheadOf_8 sa
  rw [C_ahead h (by omega), bnd_s]
  have key := iter_run (f := S_G_standingAheadOf_8) (z := fun _ _ _ => none) (fun d g => ∀ a x, x + d = t 0 → a < t 0 → g μ (nI a) (nI x) = some (nI (saF (t 0) st d a))) (fun g a x hx ha => ?_) (fun d g ih a x hx ha => ?_) NF (t 0) (NF_lt (by omega)) (ahd (t 0) k) 0 (by omega) hb
  · exact key
  · unfold S_G_standingAheadOf_8
    rw [h.pegs, if_pos ((nI_leI (by omega) (by omega)).mpr (by omega))]
    rfl
  · have hb2 := ahd_lt ha
    unfold S_G_standingAheadOf_8 saF
    rw [h.pegs, if_neg (fun q => by have := (nI_leI (by omega) (by omega)).mp q; omega), hasS h (by omega), bnd_s, C_ahead h (by omega), bnd_s, lit 1, nI_add, ih _ _ (by omega) hb2]
    cases st.testBit a <;> rfl
end BES
section BESM
variable {ν : Mem} {t : Nat → Nat} {st : Nat}
theorem M_sbI : ∀ n, n < 9 → ∀ a, a < n → (((nI a + nI 1) + nI n) - ((nI a + nI 1) + nI n) / nI n * nI n) = nI (bhd n a) := by decide +kernel
theorem M_saI : ∀ n, n < 9 → ∀ a, a < n → (((nI a + (-1)) + nI n) - ((nI a + (-1)) + nI n) / nI n * nI n) = nI (ahd n a) := by decide +kernel
theorem M_sb (h : MS ν t) (hst : st < 2 ^ t 0) (h0 : st ≠ 0) {k : Nat} (hk : k < t 0) : F_M_nextOf ν (nI st) (nI k) 1 = some (nI (sb (t 0) st k)) := by
  have hn := h.n2
  have hb := bhd_lt hk
  have hst2 := Nat.lt_of_lt_of_le hst (pow_le _ hn.2)
  have hbit := sb_bit (t 0) (by omega) st hst h0 k hk
  unfold F_M_nextOf F_M_nextOf_19
  simp only [lit]
  have hn0 : ¬ nI (t 0) = nI 0 := by rw [nI_eq (by omega) (by omega)]; omega
  rw [gd_nI (by decide) (by decide), nclamp (by decide), h.n, if_neg hn0, M_sbI (t 0) (by omega) k hk]
  have key := iter_run (f := S_M_nextOf_19) (z := fun _ _ _ _ _ => none) (fun d g => ∀ a, a < t 0 → st.testBit (sbF (t 0) st d a) = true → g ν (nI st) (nI 1) (nI (t 0)) (nI a) = some (nI (sbF (t 0) st d a))) (fun g a ha hq => ?_) (fun d g ih a ha hq => ?_) NF (t 0) (NF_lt (by omega)) (bhd (t 0) k) hb hbit.1
  · exact key
  · unfold S_M_nextOf_19
    rw [hasM st hst2 _ (by omega), bnd_s, show st.testBit a = true from hq]
    rfl
  · unfold S_M_nextOf_19
    rw [hasM st hst2 _ (by omega), bnd_s]
    unfold sbF at hq ⊢
    cases hc : st.testBit a with
    | true => rfl
    | false =>
      rw [hc] at hq
      rw [if_pos (by decide), lit 0, if_neg hn0, M_sbI (t 0) (by omega) a ha]
      exact ih _ (bhd_lt ha) hq
theorem M_sa (h : MS ν t) (hst : st < 2 ^ t 0) (h0 : st ≠ 0) {k : Nat} (hk : k < t 0) : F_M_nextOf ν (nI st) (nI k) (-1) = some (nI (sa (t 0) st k)) := by
  have hn := h.n2
  have hb := ahd_lt hk
  have hst2 := Nat.lt_of_lt_of_le hst (pow_le _ hn.2)
  have hbit := sa_bit (t 0) (by omega) st hst h0 k hk
  unfold F_M_nextOf F_M_nextOf_19
  have hn0 : ¬ nI (t 0) = nI 0 := by rw [nI_eq (by omega) (by omega)]; omega
  rw [lit 0, gd_nI (by decide) (by decide), nclamp (by decide), h.n, if_neg hn0, M_saI (t 0) (by omega) k hk]
  have key := iter_run (f := S_M_nextOf_19) (z := fun _ _ _ _ _ => none) (fun d g => ∀ a, a < t 0 → st.testBit (saF (t 0) st d a) = true → g ν (nI st) (-1) (nI (t 0)) (nI a) = some (nI (saF (t 0) st d a))) (fun g a ha hq => ?_) (fun d g ih a ha hq => ?_) NF (t 0) (NF_lt (by omega)) (ahd (t 0) k) hb hbit.1
  · exact key
  · unfold S_M_nextOf_19
    rw [hasM st hst2 _ (by omega), bnd_s, show st.testBit a = true from hq]
    rfl
  · unfold S_M_nextOf_19
    rw [hasM st hst2 _ (by omega), bnd_s]
    unfold saF at hq ⊢
    cases hc : st.testBit a with
    | true => rfl
    | false =>
      rw [hc] at hq
      rw [if_pos (by decide), lit 0, if_neg hn0, M_saI (t 0) (by omega) a ha]
      exact ih _ (ahd_lt ha) hq
end BESM
