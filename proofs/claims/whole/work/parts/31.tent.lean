/-! Pure part (2): the tent by numbers; what holds, what pulls, whether a gust takes none. -/
def Wf (t : Nat → Nat) : Prop := 2 ≤ t 0 ∧ t 0 ≤ 8 ∧ t 1 < 2 ^ t 0 ∧ t 2 ≤ 9 ∧ t 3 < 256 ∧ t 4 ≤ 10 ∧ (∀ k, k < 8 → t (5 + k) ≤ 5) ∧ (∀ k, k < 8 → t (13 + k) ≤ 9) ∧ (∀ k, k < 8 → t (21 + k) ≤ 9) ∧ (∀ k, k < 8 → t (29 + k) ≤ 20) ∧ ∀ j, j < t 4 → t (37 + j) < 2 ^ t 0
/-- the class's Field at cell b -/
def CF (μ : Mem) (b : Nat) (t : Nat → Nat) : Prop := (μ.1 b 0 = nI (t 0) ∧ μ.1 b 1 = nI (t 2) ∧ μ.1 b 2 = nI (t 3) ∧ μ.1 b 3 = nI (t 1) ∧ μ.1 b 4 = nI (t 4)) ∧ (∀ k, k < 8 → μ.1 (b + 1) k = nI (t (5 + k))) ∧ (∀ k, k < 8 → μ.1 (b + 2) k = nI (t (13 + k))) ∧ (∀ k, k < 8 → μ.1 (b + 3) k = nI (t (21 + k))) ∧ (∀ k, k < 8 → μ.1 (b + 4) k = nI (t (29 + k))) ∧ ∀ j, j < t 4 → μ.1 (b + 5) j = nI (t (37 + j))
/-- the check's row -/
def MF (f : Nat → Int32) (t : Nat → Nat) : Prop := ∀ j, j < 47 → f j = nI (t j)
def hold0 (p w kd na nb : Nat) : Nat := if kd = 1 then p + p / 2 else if kd = 2 then p + 10 else if kd = 3 then p - 2 * w else if kd = 4 then (p - 2 * w + 1) / 2 else if kd = 5 then p + p / 2 + 3 * (na + nb) else p
def ahd (n k : Nat) : Nat := if k = 0 then n - 1 else k - 1
def bhd (n k : Nat) : Nat := if n ≤ k + 1 then 0 else k + 1
def holdK (t : Nat → Nat) (kd d st k : Nat) : Nat := hold0 (d * t (21 + k)) (t 2) kd (st.testBit (ahd (t 0) k)).toNat (st.testBit (bhd (t 0) k)).toNat
def holds (t : Nat → Nat) (st k : Nat) : Nat := holdK t (t (5 + k)) (t (13 + k)) st k
/-- some doubled -/
def tD (t : Nat → Nat) (db : Nat) : Nat → Nat := fun j => if 5 ≤ j ∧ j < 13 ∧ db.testBit (j - 5) = true then 1 else t j
def way (n k r : Nat) : Nat := (k * 8 / n + r) % 8
def shr (w v : Nat) : Nat := 4 - min (max w v - min w v) (8 - (max w v - min w v))
def stg (wl v s : Nat) : Nat := if wl.testBit v then s / 2 else if wl.testBit ((v + 1) % 8) || wl.testBit ((v + 7) % 8) then s + s / 4 else s
def pull (t : Nat → Nat) (k v s r wl : Nat) : Nat := stg wl v s * shr (way (t 0) k r) v / 4
theorem ahd_lt {n k : Nat} (h : k < n) : ahd n k < n := by unfold ahd; split <;> omega
theorem bhd_lt {n k : Nat} (h : k < n) : bhd n k < n := by unfold bhd; split <;> omega
theorem way_lt (n k r : Nat) : way n k r < 8 := Nat.mod_lt _ (by decide)
theorem shr_le (w v : Nat) : shr w v ≤ 4 := by unfold shr; omega
theorem stg_le {wl v s : Nat} (h : s ≤ 61) : stg wl v s ≤ 76 := by unfold stg; split <;> (try split) <;> omega
theorem pull_le {t : Nat → Nat} {k v s r wl : Nat} (h : s ≤ 61) : pull t k v s r wl ≤ 76 := by
  have h1 := stg_le (wl := wl) (v := v) h
  have h2 := shr_le (way (t 0) k r) v
  have h3 : stg wl v s * shr (way (t 0) k r) v ≤ 76 * 4 := Nat.mul_le_mul h1 h2
  unfold pull
  omega
theorem toNat_le (b : Bool) : b.toNat ≤ 1 := by cases b <;> decide
theorem hold0_le {p w kd na nb : Nat} (hp : p ≤ 90) (hn : na ≤ 1) (hb : nb ≤ 1) : hold0 p w kd na nb ≤ 150 := by
  unfold hold0
  repeat' split
  all_goals omega
theorem toNat_ne (b : Bool) : nI b.toNat = 0 ↔ b = false := by cases b <;> decide
/-! the class -/
/-- a Gale over the field: who stand, walls, turn, doubled -/
def GS (μ : Mem) (t : Nat → Nat) (st wl r db : Nat) : Prop := CF μ 1 t ∧ Wf t ∧ st < 2 ^ t 0 ∧ wl < 256 ∧ r < 8 ∧ db < 256 ∧ μ.1 7 4 = nI st ∧ μ.1 7 5 = nI wl ∧ μ.1 7 6 = nI r ∧ μ.1 7 7 = nI db
section CLS
variable {μ : Mem} {t : Nat → Nat} {st wl r db : Nat}
theorem GS.n2 (h : GS μ t st wl r db) : 2 ≤ t 0 ∧ t 0 ≤ 8 := ⟨h.2.1.1, h.2.1.2.1⟩
theorem GS.st256 (h : GS μ t st wl r db) : st < 256 := Nat.lt_of_lt_of_le h.2.2.1 (pow_le _ h.n2.2)
theorem GS.pegs (h : GS μ t st wl r db) : μ.1 1 0 = nI (t 0) := h.1.1.1
theorem GS.stn (h : GS μ t st wl r db) : μ.1 7 4 = nI st := h.2.2.2.2.2.2.1
theorem C_wayOf (h : GS μ t st wl r db) {k : Nat} (hk : k < 8) : F_G_wayOf μ (nI k) = some (nI (way (t 0) k r)) := by
  have hn := h.n2
  have hr : r < 8 := h.2.2.2.2.1
  unfold F_G_wayOf
  rw [h.pegs, h.2.2.2.2.2.2.2.2.1, if_neg (by rw [lit 0, nI_eq (by omega) (by omega)]; omega), lit 8, nmul, ndiv (by omega) (by omega), nI_add]
  have h1 : k * 8 / t 0 < 64 := Nat.lt_of_le_of_lt (Nat.div_le_self _ _) (by omega)
  rw [nmod (by omega) (by omega)]
  rfl
theorem C_behind (h : GS μ t st wl r db) {k : Nat} (hk : k < 8) : F_G_behind μ (nI k) = some (nI (bhd (t 0) k)) := by
  have hn := h.n2
  unfold F_G_behind bhd
  rw [h.pegs, lit 1, nI_add]
  by_cases hc : t 0 ≤ k + 1
  · rw [if_pos ((nI_leI (by omega) (by omega)).mpr hc), if_pos hc]; rfl
  · rw [if_neg (fun q => hc ((nI_leI (by omega) (by omega)).mp q)), if_neg hc]
theorem C_ahead (h : GS μ t st wl r db) {k : Nat} (hk : k < 8) : F_G_aheadOf μ (nI k) = some (nI (ahd (t 0) k)) := by
  have hn := h.n2
  unfold F_G_aheadOf ahd
  rw [h.pegs, lit 1, lit 0]
  by_cases hc : k = 0
  · subst hc
    rw [if_pos ((nI_leI (by omega) (by omega)).mpr (Nat.le_refl 0)), if_pos rfl, nsub (by omega)]
  · rw [if_neg (fun q => hc (by have := (nI_leI (by omega) (by omega)).mp q; omega)), if_neg hc, nsub (by omega)]
theorem C_beside (h : GS μ t st wl r db) {k : Nat} (hk : k < t 0) : F_G_standingBeside μ (nI k) = some (nI ((st.testBit (ahd (t 0) k)).toNat + (st.testBit (bhd (t 0) k)).toNat)) := by
  have hn := h.n2
  unfold F_G_standingBeside
  rw [C_ahead h (by omega), bnd_s, C_behind h (by omega), bnd_s, h.stn]
  have h1 := ahd_lt hk
  have h2 := bhd_lt hk
  rw [shrM st h.st256 _ (by omega), shrM st h.st256 _ (by omega), nI_add]
theorem C_holdsAt (h : GS μ t st wl r db) {k d : Nat} (hk : k < t 0) (hd : d ≤ 9) : F_G_holdsAt μ (nI k) (nI d) = some (nI (holdK t (tD t db (5 + k)) d st k)) := by
  have hn := h.n2
  have hg : μ.1 4 k = nI (t (21 + k)) := h.1.2.2.2.1 k (by omega)
  have hg9 : t (21 + k) ≤ 9 := h.2.1.2.2.2.2.2.2.2.2.1 k (by omega)
  have hw : μ.1 1 1 = nI (t 2) := h.1.1.2.1
  have hw9 : t 2 ≤ 9 := h.2.1.2.2.2.1
  have hkd : μ.1 2 k = nI (t (5 + k)) := h.1.2.1 k (by omega)
  have hk5 : t (5 + k) ≤ 5 := h.2.1.2.2.2.2.2.2.1 k (by omega)
  have hdb : db < 256 := h.2.2.2.2.2.1
  have hp : d * t (21 + k) ≤ 81 := Nat.mul_le_mul hd hg9
  have hbes := C_beside h hk
  have key : ∀ kd : Nat, kd ≤ 5 → F_G_holdsAt_53 μ (nI k) (nI (d * t (21 + k))) (nI (d * t (21 + k) - 2 * t 2)) (nI kd) = some (nI (holdK t kd d st k)) := by
    intro kd hkd5
    unfold F_G_holdsAt_53 holdK hold0
    rw [hbes, bnd_s]
    simp only [lit]
    have e1 : ∀ z : Nat, z ≤ 5 → (nI kd = nI z ↔ kd = z) := fun z hz => nI_eq (by omega) (by omega)
    rw [ndiv (by omega) (by omega), nI_add, nI_add, nI_add, ndiv (by omega) (by omega), nmul, nI_add]
    rcases (show kd = 0 ∨ kd = 1 ∨ kd = 2 ∨ kd = 3 ∨ kd = 4 ∨ kd = 5 by omega) with rfl | rfl | rfl | rfl | rfl | rfl <;> simp [e1]
  unfold F_G_holdsAt
  rw [gd_nI (by omega) (by decide), nclamp (by omega), hg, hw, nmul, lit 2, lit 0, nmul]
  have e2 : (if nI 0 < nI (d * t (21 + k)) - nI (2 * t 2) then nI (d * t (21 + k)) - nI (2 * t 2) else nI 0) = nI (d * t (21 + k) - 2 * t 2) := by
    by_cases hc : 2 * t 2 ≤ d * t (21 + k)
    · rw [nsub hc]
      by_cases hc2 : d * t (21 + k) - 2 * t 2 = 0
      · rw [hc2, if_neg (by rw [nI_ltI (by omega) (by omega)]; omega)]
      · rw [if_pos ((nI_ltI (by omega) (by omega)).mpr (by omega))]
    · rw [if_neg, show d * t (21 + k) - 2 * t 2 = 0 by omega]
      rw [Int32.lt_iff_toInt_lt, Int32.toInt_sub, nI_toInt (by omega), nI_toInt (by omega), nI_toInt (by omega)]
      rw [Int.bmod_eq_of_le (by omega) (by omega)]
      omega
  rw [show F_T_has (μ.1 7 7) (nI k) = some (nI (db.testBit k).toNat) from by rw [h.2.2.2.2.2.2.2.2.2]; exact hasT db hdb k (by omega), bnd_s]
  have e3 : tD t db (5 + k) = if db.testBit k = true then 1 else t (5 + k) := by
    unfold tD
    rw [show 5 + k - 5 = k by omega]
    by_cases hb : db.testBit k = true
    · rw [if_pos ⟨by omega, by omega, hb⟩, if_pos hb]
    · rw [if_neg (fun q => hb q.2.2), if_neg hb]
  rw [e3, e2]
  cases hb : db.testBit k with
  | true =>
    rw [if_neg (by decide), if_pos rfl]
    exact key 1 (by omega)
  | false =>
    rw [if_pos (by decide), if_neg (by decide), gd_nI (by omega) (by decide), hkd]
    exact key _ hk5
theorem tD_ne {j : Nat} (h : j < 5 ∨ 13 ≤ j) : tD t db j = t j := by
  unfold tD
  rw [if_neg (fun q => by omega)]
theorem holdK_tD (kd d st k : Nat) : holdK (tD t db) kd d st k = holdK t kd d st k := by
  unfold holdK
  rw [tD_ne (by omega), tD_ne (by omega), tD_ne (by omega)]
theorem C_holds (h : GS μ t st wl r db) {k : Nat} (hk : k < t 0) : F_G_holds μ (nI k) = some (nI (holds (tD t db) st k)) := by
  have hn := h.n2
  have hd : μ.1 3 k = nI (t (13 + k)) := h.1.2.2.1 k (by omega)
  have hd9 : t (13 + k) ≤ 9 := h.2.1.2.2.2.2.2.2.2.1 k (by omega)
  unfold F_G_holds holds
  rw [gd_nI (by omega) (by decide), nclamp (by omega), hd, C_holdsAt h hk hd9, bnd_s, holdK_tD, tD_ne (j := 13 + k) (by omega)]
theorem hasW (h : GS μ t st wl r db) {k : Nat} (hk : k < 8) : F_T_has (μ.1 7 5) (nI k) = some (nI (wl.testBit k).toNat) := by
  rw [h.2.2.2.2.2.2.2.1]; exact hasT wl h.2.2.2.1 k hk
theorem hasS (h : GS μ t st wl r db) {k : Nat} (hk : k < 8) : F_T_has (μ.1 7 4) (nI k) = some (nI (st.testBit k).toNat) := by
  rw [h.stn]; exact hasT st h.st256 k hk
theorem C_walls (h : GS μ t st wl r db) {v s : Nat} (hv : v < 8) (hs : s ≤ 61) : F_G_behindWalls μ (nI v) (nI s) = some (nI (stg wl v s)) := by
  unfold F_G_behindWalls F_G_behindWalls_50 F_G_behindWalls_55 stg
  simp only [lit]
  rw [hasW h hv, bnd_s, nI_add, nI_add, nsub (by omega), nmod (by omega) (by omega), nmod (by omega) (by omega), hasW h (Nat.mod_lt _ (by decide)), hasW h (Nat.mod_lt _ (by decide)), ndiv (by omega) (by omega), ndiv (by omega) (by omega), nI_add]
  rw [show (v + 8 - 1) % 8 = (v + 7) % 8 from rfl]
  cases wl.testBit v <;> cases wl.testBit ((v + 1) % 8) <;> cases wl.testBit ((v + 7) % 8) <;> rfl
theorem shrC : ∀ w, w < 8 → ∀ v, v < 8 → (nI 4 - (if (nI 8 - (if nI 0 ≤ nI w - nI v then nI w - nI v else nI 0 - (nI w - nI v))) < (if nI 0 ≤ nI w - nI v then nI w - nI v else nI 0 - (nI w - nI v)) then (nI 8 - (if nI 0 ≤ nI w - nI v then nI w - nI v else nI 0 - (nI w - nI v))) else (if nI 0 ≤ nI w - nI v then nI w - nI v else nI 0 - (nI w - nI v)))) = nI (shr w v) := by decide +kernel
theorem C_shareOf (h : GS μ t st wl r db) {k v : Nat} (hk : k < 8) (hv : v < 8) : F_G_shareOf μ (nI k) (nI v) = some (nI (shr (way (t 0) k r) v)) := by
  unfold F_G_shareOf
  rw [C_wayOf h hk, bnd_s]
  exact congrArg some (shrC _ (way_lt _ _ _) v hv)
theorem C_pullOn (h : GS μ t st wl r db) {k v s : Nat} (hk : k < 8) (hv : v < 8) (hs : s ≤ 61) : F_G_pullOn μ (nI k) (nI v) (nI s) = some (nI (if st.testBit k then pull t k v s r wl else 0)) := by
  unfold F_G_pullOn
  rw [hasS h hk, bnd_s]
  cases hb : st.testBit k with
  | false => rw [if_pos (by decide)]; rfl
  | true =>
    rw [if_neg (by decide), C_walls h hv hs, bnd_s, C_shareOf h hk hv, bnd_s, nmul, lit 4]
    have h1 := stg_le (wl := wl) (v := v) hs
    have h2 := shr_le (way (t 0) k r) v
    have h3 : stg wl v s * shr (way (t 0) k r) v ≤ 76 * 4 := Nat.mul_le_mul h1 h2
    rw [ndiv (by omega) (by omega)]
    rfl
end CLS
def takesF (t : Nat → Nat) (st v s r wl : Nat) : Nat → Nat → Bool
  | 0, _ => true
  | d + 1, k => (!st.testBit k || decide (pull t k v s r wl ≤ holds t st k)) && takesF t st v s r wl d (k + 1)
def takes (t : Nat → Nat) (st v s r wl : Nat) : Bool := takesF t st v s r wl (t 0) 0
theorem hold_leK {t : Nat → Nat} {kd d st k : Nat} (hg : t (21 + k) ≤ 9) (hd : d ≤ 9) : holdK t kd d st k ≤ 150 := by
  have hp : d * t (21 + k) ≤ 81 := Nat.mul_le_mul hd hg
  exact hold0_le (by omega) (toNat_le _) (toNat_le _)
theorem pull_tD (t : Nat → Nat) (db k v s r wl : Nat) : pull (tD t db) k v s r wl = pull t k v s r wl := by
  unfold pull
  rw [tD_ne (by omega)]
section CLS2
variable {μ : Mem} {t : Nat → Nat} {st wl r db : Nat}
theorem GS.hold_le (h : GS μ t st wl r db) {k : Nat} (hk : k < t 0) : holds (tD t db) st k ≤ 150 := by
  have hn := h.n2
  unfold holds
  have h1 : t (21 + k) ≤ 9 := h.2.1.2.2.2.2.2.2.2.2.1 k (by omega)
  have h2 : t (13 + k) ≤ 9 := h.2.1.2.2.2.2.2.2.2.1 k (by omega)
  exact hold_leK (by rw [tD_ne (by omega)]; exact h1) (by rw [tD_ne (by omega)]; exact h2)
theorem C_takes (h : GS μ t st wl r db) {v s : Nat} (hv : v < 8) (hs : s ≤ 61) : F_G_takesNone μ (nI v) (nI s) = some (nI (takes (tD t db) st v s r wl).toNat) := by
  have hn := h.n2
  unfold F_G_takesNone F_G_takesNone_2 takes
  have key := iter_run (f := S_G_takesNone_2) (z := fun _ _ _ _ => none) (fun d g => ∀ k, k + d = t 0 → g μ (nI v) (nI s) (nI k) = some (nI (takesF (tD t db) st v s r wl d k).toNat)) (fun g k hk => ?_) (fun d g ih k hk => ?_) NF (t 0) (NF_lt (by omega)) 0 (by omega)
  · rw [tD_ne (by omega)]
    exact key
  · unfold S_G_takesNone_2
    rw [h.pegs, if_pos ((nI_leI (by omega) (by omega)).mpr (by omega))]
    rfl
  · unfold S_G_takesNone_2 takesF
    rw [h.pegs, if_neg (fun q => by have := (nI_leI (by omega) (by omega)).mp q; omega), hasS h (by omega), bnd_s, C_pullOn h (by omega) hv hs, bnd_s, C_holds h (by omega), bnd_s, lit 1, nI_add, ih (k + 1) (by omega), pull_tD]
    cases hb : st.testBit k with
    | false => rw [if_pos (by decide)]; simp
    | true =>
      have h1 := pull_le (t := t) (k := k) (v := v) (r := r) (wl := wl) hs
      have h2 := h.hold_le (k := k) (by omega)
      rw [if_neg (by decide), if_pos rfl]
      by_cases hc : pull t k v s r wl ≤ holds (tD t db) st k
      · rw [if_pos ((nI_leI (by omega) (by omega)).mpr hc)]
        simp [hc]
      · rw [if_neg (fun q => hc ((nI_leI (by omega) (by omega)).mp q))]
        simp [hc]
        rfl
end CLS2
