/-! Pure part (3): the check's side of the same. -/
def MS (ν : Mem) (t : Nat → Nat) : Prop := MF (ν.1 2) t ∧ Wf t
theorem MS.stI {ν : Mem} {t : Nat → Nat} (h : MS ν t) {k j : Nat} {v : Int32} (hk : k ≠ 2) : MS (stI ν k j v) t := ⟨by rw [stI_ne ν j v (fun q => hk q.symm)]; exact h.1, h.2⟩
theorem MS.stL {ν : Mem} {t : Nat → Nat} (h : MS ν t) {j : Nat} {v : Int64} : MS (stL ν j v) t := h
theorem ahd_mod {n k : Nat} (h : k < n) : (k + n - 1) % n = ahd n k := by
  unfold ahd
  by_cases hc : k = 0
  · subst hc; rw [if_pos rfl, Nat.zero_add, Nat.mod_eq_of_lt (by omega)]
  · rw [if_neg hc, show k + n - 1 = (k - 1) + n by omega, Nat.add_mod_right, Nat.mod_eq_of_lt (by omega)]
theorem bhd_mod {n k : Nat} (h : k < n) : (k + 1) % n = bhd n k := by
  unfold bhd
  by_cases hc : n ≤ k + 1
  · rw [if_pos hc, show k + 1 = n by omega, Nat.mod_self]
  · rw [if_neg hc, Nat.mod_eq_of_lt (by omega)]
section CHK
variable {ν : Mem} {t : Nat → Nat}
theorem MS.n2 (h : MS ν t) : 2 ≤ t 0 ∧ t 0 ≤ 8 := ⟨h.2.1, h.2.2.1⟩
theorem MS.at (h : MS ν t) (j : Nat) (hj : j < 47) : ν.1 2 j = nI (t j) := h.1 j hj
theorem MS.n (h : MS ν t) : ν.1 2 0 = nI (t 0) := h.1 0 (by decide)
theorem MS.dep (h : MS ν t) {k : Nat} (hk : k < 8) : t (13 + k) ≤ 9 := h.2.2.2.2.2.2.2.2.1 k hk
theorem MS.gr (h : MS ν t) {k : Nat} (hk : k < 8) : t (21 + k) ≤ 9 := h.2.2.2.2.2.2.2.2.2.1 k hk
theorem MS.kd (h : MS ν t) {k : Nat} (hk : k < 8) : t (5 + k) ≤ 5 := h.2.2.2.2.2.2.2.1 k hk
theorem MS.wet (h : MS ν t) : t 2 ≤ 9 := h.2.2.2.2.1
theorem M_wayOf (h : MS ν t) {k : Nat} (hk : k < 8) : F_M_wayOf ν (nI k) = some (nI (k * 8 / t 0)) := by
  have hn := h.n2
  unfold F_M_wayOf
  simp only [lit]
  rw [gd_nI (by decide) (by decide), nclamp (by decide), h.n, if_neg (by rw [nI_eq (by omega) (by omega)]; omega), nmul, ndiv (by omega) (by omega), Nat.mul_comm]
theorem M_plain (h : MS ν t) {k : Nat} (hk : k < 8) : F_M_plain ν (nI k) = some (nI (t (13 + k) * t (21 + k))) := by
  unfold F_M_plain
  simp only [lit]
  rw [nI_add, nI_add, gd_nI (by omega) (by decide), gd_nI (by omega) (by decide), nclamp (by omega), nclamp (by omega), h.at _ (by omega), h.at _ (by omega), nmul]
theorem MS.pl (h : MS ν t) {k : Nat} (hk : k < 8) : t (13 + k) * t (21 + k) ≤ 81 := Nat.mul_le_mul (h.dep hk) (h.gr hk)
theorem M_doubled (h : MS ν t) {k : Nat} (hk : k < 8) : F_M_doubled ν (nI k) = some (nI (t (13 + k) * t (21 + k) + t (13 + k) * t (21 + k) / 2)) := by
  have hp := h.pl hk
  unfold F_M_doubled
  rw [M_plain h hk, bnd_s, bnd_s, lit 2, ndiv (by omega) (by omega), nI_add]
theorem M_loosened (h : MS ν t) {k : Nat} (hk : k < 8) : F_M_loosened ν (nI k) = some (nI (t (13 + k) * t (21 + k) - 2 * t 2)) := by
  have hp := h.pl hk
  have hw := h.wet
  unfold F_M_loosened
  simp only [lit]
  rw [M_plain h hk, bnd_s, gd_nI (by decide) (by decide), nclamp (by decide), h.at _ (by decide), nmul]
  generalize t (13 + k) * t (21 + k) = p at hp
  by_cases hc : 2 * t 2 ≤ p
  · rw [nsub hc, if_pos ((nI_leI (by omega) (by omega)).mpr (Nat.zero_le _))]
  · rw [if_neg, show p - 2 * t 2 = 0 by omega]
    rw [Int32.le_iff_toInt_le, Int32.toInt_sub, nI_toInt (by omega), nI_toInt (by omega), nI_toInt (by omega)]
    rw [Int.bmod_eq_of_le (by omega) (by omega)]
    omega
theorem M_zip (h : MS ν t) {k st p : Nat} (hk : k < t 0) (hst : st < 256) (hp : p ≤ 300) (z : Nat) (hz : z ≤ 3) : F_M_holds_103 ν (nI k) (nI st) (nI (t 0)) (nI z) (nI p) = some (nI (p + z + 3 * (st.testBit (bhd (t 0) k)).toNat)) := by
  have hn := h.n2
  have hb := bhd_lt hk
  unfold F_M_holds_103
  simp only [lit]
  rw [if_neg (by rw [nI_eq (by omega) (by omega)]; omega), nI_add, nmod (by omega) (by omega), bhd_mod hk, hasM st hst _ (by omega), bnd_s, nI_add, nI_add, nI_add]
  cases st.testBit (bhd (t 0) k) <;> rfl
theorem M_holds (h : MS ν t) {k st : Nat} (hk : k < t 0) (hst : st < 256) : F_M_holds ν (nI k) (nI st) = some (nI (holds t st k)) := by
  have hn := h.n2
  have hp := h.pl (k := k) (by omega)
  have hk5 := h.kd (k := k) (by omega)
  have ha := ahd_lt hk
  unfold F_M_holds
  simp only [lit]
  rw [gd_nI (by decide) (by decide), nI_add, gd_nI (by omega) (by decide), nclamp (by omega), nclamp (by decide), h.at _ (by omega), h.n, M_doubled h (by omega), M_plain h (by omega), M_loosened h (by omega)]
  simp only [bnd_s]
  have hz0 : F_M_has (nI st) (nI k + nI (t 0) - nI 1 - (nI k + nI (t 0) - nI 1) / nI (t 0) * nI (t 0)) = some (nI (st.testBit (ahd (t 0) k)).toNat) := by
    rw [nI_add, nsub (by omega), nmod (by omega) (by omega), ahd_mod hk, hasM st hst _ (by omega)]
  rw [hz0, bnd_s, M_zip h hk hst (by omega) 0 (by omega), M_zip h hk hst (by omega) 3 (by omega)]
  unfold holds holdK hold0
  generalize t (13 + k) * t (21 + k) = p at hp
  rcases (show t (5 + k) = 0 ∨ t (5 + k) = 1 ∨ t (5 + k) = 2 ∨ t (5 + k) = 3 ∨ t (5 + k) = 4 ∨ t (5 + k) = 5 by omega) with q | q | q | q | q | q <;> rw [q]
  · rw [if_neg (by decide), if_neg (by decide), if_neg (by decide), if_neg (by decide), if_neg (by decide)]; rfl
  · rw [if_pos rfl]; rfl
  · rw [if_neg (by decide), if_pos rfl, nI_add]; rfl
  · rw [if_neg (by decide), if_neg (by decide), if_pos rfl]; rfl
  · rw [if_neg (by decide), if_neg (by decide), if_neg (by decide), if_pos rfl, nI_add, ndiv (by omega) (by decide)]; rfl
  · rw [if_neg (by decide), if_neg (by decide), if_neg (by decide), if_neg (by decide), if_pos rfl, if_neg (by rw [nI_eq (by omega) (by omega)]; omega)]
    have e : ∀ b1 b2 : Bool, (if nI b1.toNat = nI 0 then some (nI (p + p / 2 + 0 + 3 * b2.toNat)) else some (nI (p + p / 2 + 3 + 3 * b2.toNat))) = some (nI (p + p / 2 + 3 * (b1.toNat + b2.toNat))) := by
      intro b1 b2
      cases b1
      · rw [if_pos (by decide)]; congr 2; show _ = p + p / 2 + 3 * (0 + b2.toNat); omega
      · rw [if_neg (by decide)]; congr 2; show _ = p + p / 2 + 3 * (1 + b2.toNat); omega
    exact e _ _
theorem M_walls {wl v s : Nat} (hw : wl < 256) (hv : v < 8) (hs : s ≤ 61) : F_M_strengthBy (nI wl) (nI v) (nI s) = some (nI (stg wl v s)) := by
  unfold F_M_strengthBy F_M_strengthBy_27 F_M_strengthBy_32 stg
  simp only [lit]
  rw [nI_add, nI_add, nmod (by omega) (by omega), nmod (by omega) (by omega), hasM wl hw _ (Nat.mod_lt _ (by decide)), hasM wl hw _ (Nat.mod_lt _ (by decide)), hasM wl hw v hv, ndiv (by omega) (by omega), ndiv (by omega) (by omega), nI_add]
  cases wl.testBit v <;> cases wl.testBit ((v + 1) % 8) <;> cases wl.testBit ((v + 7) % 8) <;> rfl
theorem shrMw : ∀ w, w < 8 → ∀ r, r < 8 → ∀ v, v < 8 → nI 4 - (if ((((nI w + nI r) - nI v) + nI 16) - (((nI w + nI r) - nI v) + nI 16) / nI 8 * nI 8) ≤ nI 4 then ((((nI w + nI r) - nI v) + nI 16) - (((nI w + nI r) - nI v) + nI 16) / nI 8 * nI 8) else (nI 8 - ((((nI w + nI r) - nI v) + nI 16) - (((nI w + nI r) - nI v) + nI 16) / nI 8 * nI 8))) = nI (shr ((w + r) % 8) v) := by decide +kernel
theorem M_pullOf (h : MS ν t) {k v s r wl : Nat} (hk : k < t 0) (hv : v < 8) (hs : s ≤ 61) (hr : r < 8) (hw : wl < 256) : F_M_pullOf ν (nI k) (nI v) (nI s) (nI r) (nI wl) = some (nI (pull t k v s r wl)) := by
  have hn := h.n2
  have hk8 : k * 8 / t 0 < 8 := by rw [Nat.div_lt_iff_lt_mul (by omega)]; omega
  unfold F_M_pullOf F_M_pullOf_34
  rw [M_wayOf h (by omega), bnd_s, M_walls hw hv hs, bnd_s]
  have e := shrMw _ hk8 r hr v hv
  have h1 := stg_le (wl := wl) (v := v) hs
  have h2 := shr_le (way (t 0) k r) v
  have h3 : stg wl v s * shr (way (t 0) k r) v ≤ 76 * 4 := Nat.mul_le_mul h1 h2
  unfold pull way at *
  simp only [lit] at e ⊢
  by_cases hc : ((((nI (k * 8 / t 0) + nI r) - nI v) + nI 16) - (((nI (k * 8 / t 0) + nI r) - nI v) + nI 16) / nI 8 * nI 8) ≤ nI 4
  · rw [if_pos hc] at e ⊢
    rw [e, nmul, ndiv (by omega) (by omega)]
  · rw [if_neg hc] at e ⊢
    rw [e, bnd_s, nmul, ndiv (by omega) (by omega)]
theorem MS.hold_le (h : MS ν t) {k st : Nat} (hk : k < 8) : holds t st k ≤ 150 := hold_leK (h.gr hk) (h.dep hk)
theorem M_takes (h : MS ν t) {st v s r wl : Nat} (hst : st < 256) (hv : v < 8) (hs : s ≤ 61) (hr : r < 8) (hw : wl < 256) : F_M_takesNone ν (nI st) (nI v) (nI s) (nI r) (nI wl) = some (nI (takes t st v s r wl).toNat) := by
  have hn := h.n2
  unfold F_M_takesNone F_M_takesNone_6 takes
  have key := iter_run (f := S_M_takesNone_6) (z := fun _ _ _ _ _ _ _ _ => none) (fun d g => ∀ k (b : Bool), k + d = t 0 → g ν (nI st) (nI v) (nI s) (nI r) (nI wl) (nI b.toNat) (nI k) = some (nI (b && takesF t st v s r wl d k).toNat)) (fun g k b hk => ?_) (fun d g ih k b hk => ?_) NF (t 0) (NF_lt (by omega)) 0 true (by omega)
  · exact key
  · unfold S_M_takesNone_6
    simp only [lit]
    rw [gd_nI (by decide) (by decide), nclamp (by decide), h.n, if_pos ((nI_leI (by omega) (by omega)).mpr (by omega)), gd_t (by cases b <;> decide)]
    simp [takesF]
  · unfold S_M_takesNone_6 takesF
    simp only [lit]
    rw [gd_nI (by decide) (by decide), nclamp (by decide), h.n, if_neg (fun q => by have := (nI_leI (by omega) (by omega)).mp q; omega), hasM st hst _ (by omega), bnd_s, M_pullOf h (by omega) hv hs hr hw, bnd_s, M_holds h (by omega) hst, bnd_s, nI_add]
    have i0 := ih (k + 1) false (by omega)
    have i1 := ih (k + 1) true (by omega)
    have i0 : g ν (nI st) (nI v) (nI s) (nI r) (nI wl) (nI 0) (nI (k + 1)) = some (nI 0) := by rw [show nI 0 = nI (false).toNat from rfl, i0]; simp
    have i1 : g ν (nI st) (nI v) (nI s) (nI r) (nI wl) (nI 1) (nI (k + 1)) = some (nI (takesF t st v s r wl d (k + 1)).toNat) := by rw [show nI 1 = nI (true).toNat from rfl, i1]; simp
    rw [i0, i1]
    have h1 := pull_le (t := t) (k := k) (v := v) (r := r) (wl := wl) hs
    have h2 := h.hold_le (k := k) (st := st) (by omega)
    cases b with
    | false => rw [if_pos (by decide)]; simp
    | true =>
      rw [if_neg (by decide)]
      cases hb : st.testBit k with
      | false => rw [if_pos (by decide)]; simp
      | true =>
        rw [if_neg (by decide)]
        by_cases hc : pull t k v s r wl ≤ holds t st k
        · rw [if_neg (fun q => by have := (nI_ltI (by omega) (by omega)).mp q; omega)]
          simp [hc]
        · rw [if_pos ((nI_ltI (by omega) (by omega)).mpr (by omega))]
          simp [hc]
end CHK
