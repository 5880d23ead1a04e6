/-! Pure part (34): the text's tokens, the class. -/
def lt (x : Nat) : Bool := decide (97 ≤ x ∧ x ≤ 122)
def dg (x : Nat) : Bool := decide (48 ≤ x ∧ x ≤ 57)
def run (P : Nat → Bool) (c : Nat → Nat) : Nat → Nat → Nat
  | 0, p => p
  | d + 1, p => if P (c p) = true then run P c d (p + 1) else p
theorem run_le (P : Nat → Bool) (c : Nat → Nat) : ∀ d p, p ≤ run P c d p ∧ run P c d p ≤ p + d := by
  intro d
  induction d with
  | zero => intro p; exact ⟨Nat.le_refl _, Nat.le_refl _⟩
  | succ d ih =>
    intro p
    show p ≤ (if P (c p) = true then run P c d (p + 1) else p) ∧ (if P (c p) = true then run P c d (p + 1) else p) ≤ p + (d + 1)
    have := ih (p + 1)
    split <;> omega
theorem run_all (P : Nat → Bool) (c : Nat → Nat) : ∀ d p j, p ≤ j → j < run P c d p → P (c j) = true := by
  intro d
  induction d with
  | zero => intro p j h1 h2; exact absurd h2 (by show ¬ j < p; omega)
  | succ d ih =>
    intro p j h1 h2
    have h2' : j < (if P (c p) = true then run P c d (p + 1) else p) := h2
    by_cases e : P (c p) = true
    · rw [if_pos e] at h2'
      by_cases e2 : j = p
      · rw [e2]; exact e
      · exact ih (p + 1) j (by omega) h2'
    · rw [if_neg e] at h2'; omega
/-- the text, told to the class and to the check -/
def CT (μ : Mem) (c : Nat → Nat) (L : Nat) : Prop := L ≤ 150 ∧ μ.1 14 3 = nI L ∧ ∀ j, j < L → c j ≤ 127 ∧ μ.1 13 j = nI (c j)
def MT (ν : Mem) (c : Nat → Nat) (L : Nat) : Prop := L ≤ 150 ∧ ν.1 0 7 = nI L ∧ ∀ j, j < L → c j ≤ 127 ∧ ν.1 6 j = nI (c j)
def FC (μ μ1 : Mem) : Prop := (∀ k, k ≠ 14 → μ1.1 k = μ.1 k) ∧ ∀ j, (j < 4 ∨ 7 < j) → μ1.1 14 j = μ.1 14 j
theorem FC.rf (μ : Mem) : FC μ μ := ⟨fun _ _ => rfl, fun _ _ => rfl⟩
theorem FC.tr {a b c : Mem} (h1 : FC a b) (h2 : FC b c) : FC a c := ⟨fun k q => (h2.1 k q).trans (h1.1 k q), fun k q => (h2.2 k q).trans (h1.2 k q)⟩
theorem FC.st {μ : Mem} {j : Nat} {v : Int32} (h : 4 ≤ j ∧ j ≤ 7) : FC μ (stI μ 14 j v) := ⟨fun k q => stI_ne _ _ _ q, fun i q => by rw [stI_same, upd_ne _ _ (by omega)]⟩
theorem FC.ct {μ μ1 : Mem} {c : Nat → Nat} {L : Nat} (h : FC μ μ1) (g : CT μ c L) : CT μ1 c L := ⟨g.1, (h.2 3 (by omega)).trans g.2.1, fun j q => by rw [h.1 13 (by decide)]; exact g.2.2 j q⟩
theorem C_lt {x : Nat} (h : x ≤ 127) : F_R_isLetter (nI x) = some (nI (lt x).toNat) := by
  unfold F_R_isLetter lt
  rw [show F_T_within (nI x) 97 122 = _ from T_within (nI x) 97 122 (by decide) (by decide), bnd_s, nI_toInt (by omega)]
  by_cases c : 97 ≤ x ∧ x ≤ 122
  · rw [if_pos (by omega), decide_eq_true c]; rfl
  · rw [if_neg (by omega), decide_eq_false c]; rfl
theorem C_dg {x : Nat} (h : x ≤ 127) : F_R_isFigure (nI x) = some (nI (dg x).toNat) := by
  unfold F_R_isFigure dg
  rw [show F_T_within (nI x) 48 57 = _ from T_within (nI x) 48 57 (by decide) (by decide), bnd_s, nI_toInt (by omega)]
  by_cases c : 48 ≤ x ∧ x ≤ 57
  · rw [if_pos (by omega), decide_eq_true c]; rfl
  · rw [if_neg (by omega), decide_eq_false c]; rfl
theorem C_skip {c : Nat → Nat} {L : Nat} : ∀ d, d < 1000 → ∀ (μ : Mem) (p : Nat), CT μ c L → μ.1 14 4 = nI p → p + d = L → ∃ μ1, F_R_skipBlanks_0 μ = some μ1 ∧ FC μ μ1 ∧ μ1.1 14 4 = nI (run (fun x => x == 32) c d p) := by
  refine fun d hd => iter_run (fun d (g : Mem → Option Mem) => ∀ (μ : Mem) (p : Nat), CT μ c L → μ.1 14 4 = nI p → p + d = L → ∃ μ1, g μ = some μ1 ∧ FC μ μ1 ∧ μ1.1 14 4 = nI (run (fun x => x == 32) c d p)) ?_ ?_ NF d (NF_lt hd)
  · intro g μ p h hp e
    have hL := h.1
    unfold S_R_skipBlanks_0
    rw [h.2.1, hp, if_pos ((nI_leI (by omega) (by omega)).mpr (by omega))]
    exact ⟨μ, rfl, FC.rf μ, hp⟩
  · intro d g ih μ p h hp e
    have hL := h.1
    obtain ⟨hc, hb⟩ := h.2.2 p (by omega)
    unfold S_R_skipBlanks_0
    rw [h.2.1, hp, if_neg (fun q => by have := (nI_leI (by omega) (by omega)).mp q; omega), gd_nI (by omega) (by decide), nclamp (by omega), hb, nI_1]
    have er : run (fun x => x == 32) c (d + 1) p = if (c p == 32) = true then run (fun x => x == 32) c d (p + 1) else p := rfl
    rw [er]
    by_cases c1 : c p = 32
    · rw [if_pos (show nI (c p) = 32 by rw [c1]; rfl), if_pos (show (c p == 32) = true by rw [c1]; rfl)]
      obtain ⟨μ1, e1, e2, e3⟩ := ih (stI μ 14 4 (nI (p + 1))) (p + 1) ((FC.st (by omega)).ct h) (by rw [stI_same, upd_same]) (by omega)
      exact ⟨μ1, e1, (FC.st (by omega)).tr e2, e3⟩
    · rw [if_neg (show ¬ nI (c p) = 32 from fun q => c1 ((nI_eq (b := 32) (by omega) (by decide)).mp q)), if_neg (show ¬ (c p == 32) = true from fun q => c1 (eq_of_beq q))]
      exact ⟨μ, rfl, FC.rf μ, hp⟩
theorem C_word {c : Nat → Nat} {L : Nat} : ∀ d, d < 1000 → ∀ (μ : Mem) (p : Nat), CT μ c L → μ.1 14 4 = nI p → p + d = L → ∃ μ1, F_R_stepOverWord_0 μ = F_R_stepOverWord_39 μ1 ∧ FC μ μ1 ∧ μ1.1 14 4 = nI (run lt c d p) ∧ μ1.1 14 5 = μ.1 14 5 := by
  refine fun d hd => iter_run (fun d (g : Mem → Option Mem) => ∀ (μ : Mem) (p : Nat), CT μ c L → μ.1 14 4 = nI p → p + d = L → ∃ μ1, g μ = F_R_stepOverWord_39 μ1 ∧ FC μ μ1 ∧ μ1.1 14 4 = nI (run lt c d p) ∧ μ1.1 14 5 = μ.1 14 5) ?_ ?_ NF d (NF_lt hd)
  · intro g μ p h hp e
    have hL := h.1
    unfold S_R_stepOverWord_0
    rw [h.2.1, hp, if_pos ((nI_leI (by omega) (by omega)).mpr (by omega))]
    exact ⟨μ, rfl, FC.rf μ, hp, rfl⟩
  · intro d g ih μ p h hp e
    have hL := h.1
    obtain ⟨hc, hb⟩ := h.2.2 p (by omega)
    unfold S_R_stepOverWord_0
    rw [h.2.1, hp, if_neg (fun q => by have := (nI_leI (by omega) (by omega)).mp q; omega), gd_nI (by omega) (by decide), nclamp (by omega), hb, C_lt hc, bnd_s, nI_1]
    have er : run lt c (d + 1) p = if lt (c p) = true then run lt c d (p + 1) else p := rfl
    rw [er]
    cases c1 : lt (c p) with
    | true =>
      rw [if_neg (by decide), if_pos rfl]
      obtain ⟨μ1, e1, e2, e3, e4⟩ := ih (stI μ 14 4 (nI (p + 1))) (p + 1) ((FC.st (by omega)).ct h) (by rw [stI_same, upd_same]) (by omega)
      exact ⟨μ1, e1, (FC.st (by omega)).tr e2, e3, by rw [e4, stI_same, upd_ne _ _ (by decide)]⟩
    | false =>
      rw [if_pos (by decide), if_neg (by decide)]
      exact ⟨μ, rfl, FC.rf μ, hp, rfl⟩
/-- the number told, as the class keeps it -/
def nvC (c : Nat → Nat) : Nat → Nat → Nat → Nat
  | 0, _, a => a
  | d + 1, p, a => if dg (c p) = true then nvC c d (p + 1) ((10 * a + c p - 48) % 100) else a
theorem C_num {c : Nat → Nat} {L : Nat} : ∀ d, d < 1000 → ∀ (μ : Mem) (p a : Nat), CT μ c L → μ.1 14 4 = nI p → μ.1 14 7 = nI a → a < 100 → p + d = L → ∃ μ1, F_R_stepOverNumber_5 μ = F_R_stepOverNumber_71 μ1 ∧ FC μ μ1 ∧ μ1.1 14 4 = nI (run dg c d p) ∧ μ1.1 14 5 = μ.1 14 5 ∧ μ1.1 14 7 = nI (nvC c d p a) := by
  refine fun d hd => iter_run (fun d (g : Mem → Option Mem) => ∀ (μ : Mem) (p a : Nat), CT μ c L → μ.1 14 4 = nI p → μ.1 14 7 = nI a → a < 100 → p + d = L → ∃ μ1, g μ = F_R_stepOverNumber_71 μ1 ∧ FC μ μ1 ∧ μ1.1 14 4 = nI (run dg c d p) ∧ μ1.1 14 5 = μ.1 14 5 ∧ μ1.1 14 7 = nI (nvC c d p a)) ?_ ?_ NF d (NF_lt hd)
  · intro g μ p a h hp ha h100 e
    have hL := h.1
    unfold S_R_stepOverNumber_5
    rw [h.2.1, hp, if_pos ((nI_leI (by omega) (by omega)).mpr (by omega))]
    exact ⟨μ, rfl, FC.rf μ, hp, rfl, ha⟩
  · intro d g ih μ p a h hp ha h100 e
    have hL := h.1
    obtain ⟨hc, hb⟩ := h.2.2 p (by omega)
    unfold S_R_stepOverNumber_5
    rw [h.2.1, hp, if_neg (fun q => by have := (nI_leI (by omega) (by omega)).mp q; omega), gd_nI (by omega) (by decide), gd_nI (by omega) (by decide), nclamp (by omega), hb, C_dg hc, bnd_s, nI_1, ha]
    have er : run dg c (d + 1) p = if dg (c p) = true then run dg c d (p + 1) else p := rfl
    have en : nvC c (d + 1) p a = if dg (c p) = true then nvC c d (p + 1) ((10 * a + c p - 48) % 100) else a := rfl
    rw [er, en]
    cases c1 : dg (c p) with
    | true =>
      have hd := of_decide_eq_true c1
      rw [if_neg (by decide), if_pos rfl, if_pos rfl, lit 10, lit 48, lit 100, nmul, nI_add, nsub (by omega), nmod (by omega) (by decide)]
      obtain ⟨μ1, e1, e2, e3, e4, e5⟩ := ih (stI (stI μ 14 7 (nI ((10 * a + c p - 48) % 100))) 14 4 (nI (p + 1))) (p + 1) ((10 * a + c p - 48) % 100) ((FC.st (by omega)).ct ((FC.st (by omega)).ct h)) (by rw [stI_same, upd_same]) (by rw [stI_same, upd_ne _ _ (by decide), stI_same, upd_same]) (Nat.mod_lt _ (by decide)) (by omega)
      exact ⟨μ1, e1, ((FC.st (by omega)).tr (FC.st (by omega))).tr e2, e3, by rw [e4, stI_same, upd_ne _ _ (by decide), stI_same, upd_ne _ _ (by decide)], e5⟩
    | false =>
      rw [if_pos (by decide), if_neg (by decide), if_neg (by decide)]
      exact ⟨μ, rfl, FC.rf μ, hp, rfl, ha⟩
/-! words -/
def wl (w i : Nat) : Nat := ((([[116, 101, 110, 116], [112, 101, 103], [119, 101, 116], [119, 97, 108, 108], [111, 100, 100, 115], [103, 111, 110, 101]] : List (List Nat)).getD w []).getD i 0)
theorem wl_ch : ∀ w, w < 6 → ∀ i, i < slen w → ((schr w (nI i).toNatClampNeg &&& 255).toUInt32 % 65536).toInt32 = nI (wl w i) := by decide +kernel
theorem slen_lt : ∀ w, w < 6 → slen w = 3 ∨ slen w = 4 := by decide
theorem wl_le : ∀ w, w < 6 → ∀ i, i < slen w → wl w i ≤ 122 := by decide
def spf (c : Nat → Nat) (w s : Nat) : Nat → Nat → Bool
  | 0, _ => true
  | d + 1, i => if c (s + i) = wl w i then spf c w s d (i + 1) else false
def sp (c : Nat → Nat) (w s n : Nat) : Bool := if slen w = n then spf c w s n 0 else false
theorem C_spells {μ : Mem} {c : Nat → Nat} {L s n w : Nat} (h : CT μ c L) (hw : w < 6) (h4 : μ.1 14 4 = nI (s + n)) (h5 : μ.1 14 5 = nI s) (hs : s + n ≤ L) : F_R_spells μ w = some (nI (sp c w s n).toNat) := by
  have hL := h.1
  have h34 := slen_lt w hw
  have key : ∀ d, d < 1000 → ∀ i, i + d = slen w → slen w = n → F_R_spells_20 μ w (nI i) = some (nI (spf c w s d i).toNat) := by
    refine fun d hd => iter_run (fun d (g : Mem → Nat → Int32 → Option Int32) => ∀ i, i + d = slen w → slen w = n → g μ w (nI i) = some (nI (spf c w s d i).toNat)) ?_ ?_ NF d (NF_lt hd)
    · intro g i hi hn
      unfold S_R_spells_20
      rw [gd_t (decide_eq_true hw), show Int32.ofNat (slen w) = nI (slen w) from rfl, if_pos ((nI_leI (by omega) (by omega)).mpr (by omega))]
      rfl
    · intro d g ih i hi hn
      have hc := h.2.2 (s + i) (by omega)
      unfold S_R_spells_20
      rw [gd_t (decide_eq_true hw), show Int32.ofNat (slen w) = nI (slen w) from rfl, if_neg (fun q => by have := (nI_leI (by omega) (by omega)).mp q; omega), h5, nI_add, gd_nI (by omega) (by decide), gd_t (decide_eq_true hw), gd_nI (by omega) (by omega), nclamp (n := s + i) (by omega), hc.2, wl_ch w hw i (by omega), nI_1, ih (i + 1) (by omega) hn]
      show _ = some (nI (if c (s + i) = wl w i then spf c w s d (i + 1) else false).toNat)
      have := wl_le w hw i (by omega)
      by_cases e : c (s + i) = wl w i
      · rw [if_pos (by rw [e]), if_pos e]
      · rw [if_neg (fun q => e ((nI_eq (by omega) (by omega)).mp q)), if_neg e]; rfl
  unfold F_R_spells sp
  rw [gd_t (decide_eq_true hw), show Int32.ofNat (slen w) = nI (slen w) from rfl, h4, h5, nsub (by omega), show s + n - s = n by omega]
  by_cases e : slen w = n
  · rw [if_pos (by rw [e]), if_pos e]
    exact key n (by omega) 0 (by omega) e
  · rw [if_neg (fun q => e ((nI_eq (by omega) (by omega)).mp q)), if_neg e]; rfl
def wd (c : Nat → Nat) (s n : Nat) : Nat := if sp c 0 s n = true then 4 else if sp c 1 s n = true then 5 else if sp c 2 s n = true then 6 else if sp c 3 s n = true then 7 else if sp c 4 s n = true then 8 else if sp c 5 s n = true then 9 else 0
theorem C_39 {μ : Mem} {c : Nat → Nat} {L s n : Nat} (h : CT μ c L) (h4 : μ.1 14 4 = nI (s + n)) (h5 : μ.1 14 5 = nI s) (hs : s + n ≤ L) : F_R_stepOverWord_39 μ = some (stI μ 14 6 (nI (wd c s n))) := by
  unfold F_R_stepOverWord_39 wd
  rw [C_spells h (w := 0) (by decide) h4 h5 hs, bnd_s, C_spells h (w := 1) (by decide) h4 h5 hs, bnd_s, C_spells h (w := 2) (by decide) h4 h5 hs, bnd_s, C_spells h (w := 3) (by decide) h4 h5 hs, bnd_s, C_spells h (w := 4) (by decide) h4 h5 hs, bnd_s, C_spells h (w := 5) (by decide) h4 h5 hs, bnd_s]
  cases sp c 0 s n
  · cases sp c 1 s n
    · cases sp c 2 s n
      · cases sp c 3 s n
        · cases sp c 4 s n
          · cases sp c 5 s n <;> rfl
          · rfl
        · rfl
      · rfl
    · rfl
  · rfl
