/-! Pure part (18): fractions. -/
def sI (b : Bool) (a : Nat) : Int32 := if b then -nI a else nI a
def sL (b : Bool) (a : Nat) : Int64 := if b then -lN a else lN a
theorem neg_toInt {a : Nat} (h : a < 2 ^ 31) : (-nI a).toInt = -(a : Int) := by
  rw [Int32.toInt_neg, nI_toInt h]
  exact Int.bmod_eq_of_le (by omega) (by omega)
theorem negL_toInt {a : Nat} (h : a < 2 ^ 31) : (-lN a).toInt = -(a : Int) := by
  rw [Int64.toInt_neg, lN_toInt h]
  exact Int.bmod_eq_of_le (by omega) (by omega)
theorem sI_toInt (b : Bool) {a : Nat} (h : a < 2 ^ 31) : (sI b a).toInt = if b then -(a : Int) else a := by
  cases b
  · exact nI_toInt h
  · exact neg_toInt h
theorem sL_toInt (b : Bool) {a : Nat} (h : a < 2 ^ 31) : (sL b a).toInt = if b then -(a : Int) else a := by
  cases b
  · exact lN_toInt h
  · exact negL_toInt h
theorem sI_0 (b : Bool) {a : Nat} (h : a < 2 ^ 31) : sI b a = 0 ↔ a = 0 := by
  rw [← Int32.toInt_inj, sI_toInt b h, show (0 : Int32).toInt = 0 from rfl]
  cases b
  · show (a : Int) = 0 ↔ a = 0; omega
  · show -(a : Int) = 0 ↔ a = 0; omega
theorem sI_l (b : Bool) {a : Nat} (h : a < 2 ^ 31) : (sI b a).toInt64 = sL b a := by
  apply Int64.toInt_inj.mp
  rw [Int32.toInt_toInt64, sI_toInt b h, sL_toInt b h]
theorem sI_div (b : Bool) {a d : Nat} (ha : a < 2 ^ 31) (hd : d < 2 ^ 31) : sI b a / nI d = sI b (a / d) := by
  have h0 : a / d < 2 ^ 31 := Nat.lt_of_le_of_lt (Nat.div_le_self a d) ha
  cases b
  · exact ndiv ha hd
  · apply Int32.toInt_inj.mp
    show (-nI a / nI d).toInt = (-nI (a / d)).toInt
    rw [Int32.toInt_div, neg_toInt ha, nI_toInt hd, neg_toInt h0, Int.neg_tdiv, ← Int.ofNat_tdiv]
    generalize a / d = q at h0 ⊢
    exact Int.bmod_eq_of_le (by omega) (by omega)
theorem ldiv {a d : Nat} (ha : a < 2 ^ 31) (hd : d < 2 ^ 31) : lN a / lN d = lN (a / d) := by
  have h0 : a / d < 2 ^ 31 := Nat.lt_of_le_of_lt (Nat.div_le_self a d) ha
  apply Int64.toInt_inj.mp
  rw [Int64.toInt_div, lN_toInt ha, lN_toInt hd, lN_toInt h0, ← Int.ofNat_tdiv]
  generalize a / d = q at h0 ⊢
  exact Int.bmod_eq_of_le (by omega) (by omega)
theorem sL_div (b : Bool) {a d : Nat} (ha : a < 2 ^ 31) (hd : d < 2 ^ 31) : sL b a / lN d = sL b (a / d) := by
  have h0 : a / d < 2 ^ 31 := Nat.lt_of_le_of_lt (Nat.div_le_self a d) ha
  cases b
  · exact ldiv ha hd
  · apply Int64.toInt_inj.mp
    show (-lN a / lN d).toInt = (-lN (a / d)).toInt
    rw [Int64.toInt_div, negL_toInt ha, lN_toInt hd, negL_toInt h0, Int.neg_tdiv, ← Int.ofNat_tdiv]
    generalize a / d = q at h0 ⊢
    exact Int.bmod_eq_of_le (by omega) (by omega)
theorem lmod {a d : Nat} (ha : a < 2 ^ 31) (hd : d < 2 ^ 31) : lN a - lN a / lN d * lN d = lN (a % d) := by
  rw [ldiv ha hd, lN_mul, lN_sub (Nat.div_mul_le_self a d)]
  congr 1
  have := Nat.mod_add_div a d
  rw [Nat.mul_comm] at this
  omega
theorem sI_mod (b : Bool) {a d : Nat} (ha : a < 2 ^ 31) (hd : d < 2 ^ 31) : sI b a - sI b a / nI d * nI d = sI b (a % d) := by
  cases b
  · exact nmod ha hd
  · rw [sI_div true ha hd]
    show -nI a - -nI (a / d) * nI d = -nI (a % d)
    rw [← nmod ha hd, ndiv ha hd, Int32.neg_mul, Int32.sub_neg, Int32.neg_sub, Int32.add_comm, ← Int32.sub_eq_add_neg]
/-- the largest number dividing both, looked for downwards -/
def gdn (a m : Nat) : Nat → Nat
  | 0 => 1
  | x + 1 => if x + 1 ≤ 1 then 1 else if a % (x + 1) = 0 ∧ m % (x + 1) = 0 then x + 1 else gdn a m x
theorem gdn_gcd {a m : Nat} (hm : 0 < m) : ∀ x, Nat.gcd a m ≤ x → gdn a m x = Nat.gcd a m := by
  have hg : 0 < Nat.gcd a m := Nat.gcd_pos_of_pos_right a hm
  intro x
  induction x with
  | zero => intro h; omega
  | succ x ih =>
    intro h
    show (if x + 1 ≤ 1 then 1 else if a % (x + 1) = 0 ∧ m % (x + 1) = 0 then x + 1 else gdn a m x) = _
    by_cases c : x + 1 ≤ 1
    · rw [if_pos c]; omega
    · rw [if_neg c]
      by_cases c2 : a % (x + 1) = 0 ∧ m % (x + 1) = 0
      · rw [if_pos c2]
        have := Nat.le_of_dvd hg (Nat.dvd_gcd (Nat.dvd_of_mod_eq_zero c2.1) (Nat.dvd_of_mod_eq_zero c2.2))
        omega
      · rw [if_neg c2]
        refine ih ?_
        rcases Nat.lt_or_eq_of_le h with h1 | h1
        · omega
        · exfalso
          apply c2
          rw [← h1]
          exact ⟨Nat.mod_eq_zero_of_dvd (Nat.gcd_dvd_left a m), Nat.mod_eq_zero_of_dvd (Nat.gcd_dvd_right a m)⟩
def KF (μ m : Mem) : Prop := (∀ k, k ≠ 0 → m.1 k = μ.1 k) ∧ (∀ j, j ≠ 8 → j ≠ 9 → m.1 0 j = μ.1 0 j)
theorem C_frac {b : Bool} {a m : Nat} (ha : a ≤ 1000) (hm : 0 < m) (hm2 : m ≤ 900) : ∀ x, x < 1000 → ∀ μ : Mem, μ.1 0 8 = sI b a → μ.1 0 9 = nI m → 0 < x ∧ x ≤ 900 → ∃ m1, F_T_keepFraction_12 μ (sI b a) (nI m) (nI x) = some m1 ∧ m1.1 0 8 = sI b (a / gdn a m x) ∧ m1.1 0 9 = nI (m / gdn a m x) ∧ KF μ m1 := by
  refine fun x hx => iter_run (fun x (g : Mem → Int32 → Int32 → Int32 → Option Mem) => ∀ μ : Mem, μ.1 0 8 = sI b a → μ.1 0 9 = nI m → 0 < x ∧ x ≤ 900 → ∃ m1, g μ (sI b a) (nI m) (nI x) = some m1 ∧ m1.1 0 8 = sI b (a / gdn a m x) ∧ m1.1 0 9 = nI (m / gdn a m x) ∧ KF μ m1) ?_ ?_ NF x (NF_lt hx)
  · intro g μ _ _ h; exact absurd h.1 (by omega)
  · intro x g ih μ h8 h9 hx0
    have hx9 := hx0.2
    unfold S_T_keepFraction_12
    have e : nI (x + 1) + -nI 1 = nI x := by rw [← Int32.sub_eq_add_neg, nsub (by omega)]; rfl
    show ∃ m1, _ = some m1 ∧ m1.1 0 8 = sI b (a / (if x + 1 ≤ 1 then 1 else if a % (x + 1) = 0 ∧ m % (x + 1) = 0 then x + 1 else gdn a m x)) ∧ m1.1 0 9 = nI (m / (if x + 1 ≤ 1 then 1 else if a % (x + 1) = 0 ∧ m % (x + 1) = 0 then x + 1 else gdn a m x)) ∧ KF μ m1
    rw [lit 1, e]
    by_cases c : x + 1 ≤ 1
    · rw [if_pos ((nI_leI (by omega) (by omega)).mpr c), if_pos c, Nat.div_one, Nat.div_one]
      exact ⟨μ, rfl, h8, h9, fun _ _ => rfl, fun _ _ _ => rfl⟩
    · have hz : ¬ nI (x + 1) = 0 := fun q => by have := (nI_eq (b := 0) (by omega) (by omega)).mp q; omega
      have c' : ¬ nI (x + 1) ≤ nI 1 := fun q => c ((nI_leI (by omega) (by omega)).mp q)
      have hmod : a % (x + 1) < 2 ^ 31 := Nat.lt_of_lt_of_le (Nat.mod_lt _ (by omega)) (by omega)
      have hmod2 : m % (x + 1) < 2 ^ 31 := Nat.lt_of_lt_of_le (Nat.mod_lt _ (by omega)) (by omega)
      rw [if_neg c', if_neg hz, sI_mod b (by omega) (by omega), if_neg c, nmod (by omega) (by omega), sI_div b (by omega) (by omega), ndiv (by omega) (by omega)]
      have rest := ih μ h8 h9 ⟨by omega, by omega⟩
      by_cases c1 : a % (x + 1) = 0
      · rw [if_pos ((sI_0 b hmod).mpr c1), if_neg hz]
        by_cases c2 : m % (x + 1) = 0
        · rw [if_pos (show nI (m % (x + 1)) = 0 by rw [c2]; rfl), if_neg hz, if_neg hz, if_pos (show a % (x + 1) = 0 ∧ m % (x + 1) = 0 from ⟨c1, c2⟩)]
          refine ⟨_, rfl, ?_, ?_, fun k q => ?_, fun j q r => ?_⟩
          · rw [stI_same, upd_ne _ _ (by decide), stI_same, upd_same]
          · rw [stI_same, upd_same]
          · rw [stI_ne _ _ _ q, stI_ne _ _ _ q]
          · rw [stI_same, upd_ne _ _ r, stI_same, upd_ne _ _ q]
        · rw [if_neg (show ¬ nI (m % (x + 1)) = 0 from fun q => c2 ((nI_eq (b := 0) hmod2 (by omega)).mp q)), if_neg (show ¬ (a % (x + 1) = 0 ∧ m % (x + 1) = 0) from fun q => c2 q.2)]
          exact rest
      · rw [if_neg (show ¬ sI b (a % (x + 1)) = 0 from fun q => c1 ((sI_0 b hmod).mp q)), if_neg (show ¬ (a % (x + 1) = 0 ∧ m % (x + 1) = 0) from fun q => c1 q.1)]
        exact rest
theorem C_keep {b : Bool} {a m : Nat} (ha : a ≤ 900) (hm : 0 < m) (hm2 : m ≤ 900) (μ : Mem) : ∃ m1, F_T_keepFraction μ (sI b a) (nI m) = some m1 ∧ m1.1 0 8 = sI b (a / Nat.gcd a m) ∧ m1.1 0 9 = nI (m / Nat.gcd a m) ∧ KF μ m1 := by
  unfold F_T_keepFraction
  obtain ⟨m1, e1, e2, e3, e4, e5⟩ := C_frac (b := b) (a := a) (m := m) (by omega) hm hm2 m (by omega) (stI (stI μ 0 8 (sI b a)) 0 9 (nI m)) (by rw [stI_same, upd_ne _ _ (by decide), stI_same, upd_same]) (by rw [stI_same, upd_same]) ⟨hm, hm2⟩
  rw [gdn_gcd hm m (Nat.le_of_dvd hm (Nat.gcd_dvd_right a m))] at e2 e3
  refine ⟨m1, e1, e2, e3, fun k q => ?_, fun j q r => ?_⟩
  · rw [e4 k q, stI_ne _ _ _ q, stI_ne _ _ _ q]
  · rw [e5 j q r, stI_same, upd_ne _ _ r, stI_same, upd_ne _ _ q]
theorem M_euc {G : Nat} (hG : 0 < G) (hG2 : G ≤ 900) (x1 x2 : Int32) : ∀ d, d < 1000 → ∀ (ν : Mem) p q, q ≤ d → p ≤ 900 → q ≤ 900 → Nat.gcd p q = G → F_M_setPart_17 ν x1 x2 (lN p) (lN q) = some (stL (stL ν 17 (x1.toInt64 / lN G)) 18 (x2.toInt64 / lN G)) := by
  refine fun d hd => iter_run (fun d (g : Mem → Int32 → Int32 → Int64 → Int64 → Option Mem) => ∀ (ν : Mem) p q, q ≤ d → p ≤ 900 → q ≤ 900 → Nat.gcd p q = G → g ν x1 x2 (lN p) (lN q) = some (stL (stL ν 17 (x1.toInt64 / lN G)) 18 (x2.toInt64 / lN G))) ?_ ?_ NF d (NF_lt hd)
  · intro g ν p q hq hp hq2 hg
    have : q = 0 := by omega
    subst this
    rw [Nat.gcd_zero_right] at hg
    subst hg
    have hz : ¬ lN p = 0 := fun e => by have := (lN_eq (b := 0) (by omega) (by omega)).mp e; omega
    unfold S_M_setPart_17
    rw [if_pos (show lg_cmp (lN 0) 0 = 0 from (cmp_eq _ _).mpr rfl), if_neg hz, if_neg hz]
  · intro d g ih ν p q hq hp hq2 hg
    by_cases c : q = 0
    · subst c
      rw [Nat.gcd_zero_right] at hg
      subst hg
      have hz : ¬ lN p = 0 := fun e => by have := (lN_eq (b := 0) (by omega) (by omega)).mp e; omega
      unfold S_M_setPart_17
      rw [if_pos (show lg_cmp (lN 0) 0 = 0 from (cmp_eq _ _).mpr rfl), if_neg hz, if_neg hz]
    · have hz : ¬ lN q = 0 := fun e => c ((lN_eq (b := 0) (by omega) (by omega)).mp e)
      have hlt : p % q < q := Nat.mod_lt _ (by omega)
      unfold S_M_setPart_17
      rw [if_neg (show ¬ lg_cmp (lN q) 0 = 0 from fun e => hz ((cmp_eq _ _).mp e)), if_neg hz, lmod (by omega) (by omega)]
      refine ih ν q (p % q) (by omega) hq2 (by omega) ?_
      rw [← hg, Nat.gcd_comm q (p % q), ← Nat.gcd_rec q p, Nat.gcd_comm]
theorem M_setPart {b : Bool} {a m : Nat} (ha : a ≤ 900) (hm : 0 < m) (hm2 : m ≤ 900) (ν : Mem) : F_M_setPart ν (sI b a) (nI m) = some (stL (stL ν 17 ((sI b (a / Nat.gcd a m)).toInt64)) 18 ((nI (m / Nat.gcd a m)).toInt64)) := by
  have hg : 0 < Nat.gcd a m := Nat.gcd_pos_of_pos_right a hm
  have hg2 : Nat.gcd a m ≤ m := Nat.le_of_dvd hm (Nat.gcd_dvd_right a m)
  have h1 : a / Nat.gcd a m ≤ a := Nat.div_le_self _ _
  have h2 : m / Nat.gcd a m ≤ m := Nat.div_le_self _ _
  have key := M_euc hg (by omega) (sI b a) (nI m) 900 (by decide) ν a m hm2 ha hm2 rfl
  rw [sI_l b (by omega), sL_div b (by omega) (by omega), nI_l (by omega), ldiv (by omega) (by omega)] at key
  rw [sI_l b (by omega), nI_l (by omega), ← key]
  unfold F_M_setPart
  by_cases c : (0 : Int32) ≤ sI b a
  · have e : (sI b a).toInt64 = lN a := by
      cases b
      · exact nI_l (by omega)
      · have : a = 0 := by
          have q : (0 : Int32).toInt ≤ (sI true a).toInt := Int32.le_iff_toInt_le.mp c
          rw [sI_toInt true (by omega)] at q
          have q2 : (0 : Int) ≤ -(a : Int) := q
          omega
        subst this; rfl
    rw [if_pos c, e, nI_l (by omega)]
  · have e : (-sI b a).toInt64 = lN a := by
      cases b
      · exfalso
        exact c ((nI_leI (a := 0) (by omega) (by omega)).mpr (Nat.zero_le _))
      · show (- -nI a).toInt64 = lN a
        rw [Int32.neg_neg]; exact nI_l (by omega)
    rw [if_neg c, e, nI_l (by omega)]
/-- a fraction kept alike -/
theorem Rel.frac {μ ν μ1 ν1 m : Mem} (h : Rel μ ν) (hc : SC μ μ1) (hm : SM ν ν1) (hk : KF μ1 m) {x y : Int32} (e1 : m.1 0 8 = x) (e2 : m.1 0 9 = y) : Rel m (stL (stL ν1 17 x.toInt64) 18 y.toInt64) := by
  obtain ⟨⟨t, f1, f2, f3⟩, s, tx, _, i⟩ := h
  have c : ∀ k, k ≠ 0 → (k < 7 ∨ k = 13 ∨ 22 ≤ k) → m.1 k = μ.1 k := fun k q r => (hk.1 k q).trans (hc k r)
  have c0 : ∀ j, j ≠ 8 → j ≠ 9 → m.1 0 j = μ.1 0 j := fun j q r => (hk.2 j q r).trans (by rw [hc 0 (by omega)])
  refine ⟨⟨t, f1, f2.keep (fun k q r => c k (by omega) (by omega)), ?_⟩, ?_, tx.same (c0 7 (by decide) (by decide)) (c 13 (by decide) (by omega)) hm.2.1 (hm.1 6 (by omega)), ?_, i.same (fun k q => c k (by omega) (by omega)) (hm.1 5 (by omega)) (hm.1 4 (by omega))⟩
  · show MF (ν1.1 2) t
    rw [hm.1 2 (by omega)]; exact f3
  · unfold Rst
    rw [c0 10 (by decide) (by decide), c0 11 (by decide) (by decide), c0 12 (by decide) (by decide)]
    show _ = ν1.1 1 0 ∧ _ = ν1.1 1 1 ∧ _ = ν1.1 1 2
    rw [hm.1 1 (by omega)]; exact s
  · unfold Rfr
    rw [e1, e2]
    exact ⟨rfl, rfl⟩
theorem ok_frac {μ ν μ1 ν1 : Mem} (h : Rel μ ν) (hc : SC μ μ1) (hm : SM ν ν1) {b : Bool} {a m : Nat} (ha : a ≤ 900) (h0 : 0 < m) (hm2 : m ≤ 900) (z : Int32) : okI Rel (bnd (F_T_keepFraction μ1 (sI b a) (nI m)) (fun q => some (z, q))) (bnd (F_M_setPart ν1 (sI b a) (nI m)) (fun q => some (z, q))) := by
  obtain ⟨m1, e1, e2, e3, e4⟩ := C_keep (b := b) ha h0 hm2 μ1
  rw [e1, M_setPart ha h0 hm2 ν1, bnd_s, bnd_s]
  exact ⟨z, _, _, rfl, rfl, h.frac hc hm e4 e2 e3⟩
