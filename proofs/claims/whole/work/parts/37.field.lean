/-! Pure part (8): the field's setters on both sides. -/
def tset (t : Nat → Nat) (j v : Nat) : Nat → Nat := fun i => if i = j then v else t i
theorem ts_same (t : Nat → Nat) (j v : Nat) : tset t j v j = v := if_pos rfl
theorem ts_ne (t : Nat → Nat) {j i : Nat} (v : Nat) (h : i ≠ j) : tset t j v i = t i := if_neg h
theorem MF.set {f : Nat → Int32} {t : Nat → Nat} (h : MF f t) (j v : Nat) : MF (upd f j (nI v)) (tset t j v) := by
  intro i hi
  by_cases e : i = j
  · subst e; rw [upd_same, ts_same]
  · rw [upd_ne _ _ e, h i hi, ts_ne _ _ e]
theorem CF.s {μ : Mem} {b : Nat} {t : Nat → Nat} (h : CF μ b t) {s j v : Nat} (hs : (s = 1 ∧ j = 2) ∨ (s = 2 ∧ j = 3) ∨ (s = 3 ∧ j = 1)) : CF (stI μ b s (nI v)) b (tset t j v) := by
  obtain ⟨⟨a1, a2, a3, a4, a5⟩, b1, b2, b3, b4, b5⟩ := h
  have e : ∀ i, (stI μ b s (nI v)).1 b i = if i = s then nI v else μ.1 b i := fun i => by rw [stI_same, upd_at]
  have e4 : tset t j v 4 = t 4 := ts_ne _ _ (by omega)
  refine ⟨?_, fun k q => ?_, fun k q => ?_, fun k q => ?_, fun k q => ?_, fun k q => ?_⟩
  · rcases hs with ⟨rfl, rfl⟩ | ⟨rfl, rfl⟩ | ⟨rfl, rfl⟩ <;> simp [e, tset, a1, a2, a3, a4, a5]
  · rw [stI_ne _ _ _ (by omega), ts_ne _ _ (by omega)]; exact b1 k q
  · rw [stI_ne _ _ _ (by omega), ts_ne _ _ (by omega)]; exact b2 k q
  · rw [stI_ne _ _ _ (by omega), ts_ne _ _ (by omega)]; exact b3 k q
  · rw [stI_ne _ _ _ (by omega), ts_ne _ _ (by omega)]; exact b4 k q
  · rw [e4] at q
    rw [stI_ne _ _ _ (by omega), ts_ne _ _ (by omega)]; exact b5 k q
theorem CF.r {μ : Mem} {b : Nat} {t : Nat → Nat} (h : CF μ b t) {o c k v : Nat} (ho : (o = 1 ∧ c = 5) ∨ (o = 2 ∧ c = 13) ∨ (o = 3 ∧ c = 21) ∨ (o = 4 ∧ c = 29)) (hk : k < 8) : CF (stI μ (b + o) k (nI v)) b (tset t (c + k) v) := by
  obtain ⟨⟨a1, a2, a3, a4, a5⟩, b1, b2, b3, b4, b5⟩ := h
  have e0 : (stI μ (b + o) k (nI v)).1 b = μ.1 b := stI_ne _ _ _ (by omega)
  have f : ∀ i, i < 5 → tset t (c + k) v i = t i := fun i hi => ts_ne _ _ (by omega)
  have g : ∀ o' c' j, ((o' = 1 ∧ c' = 5) ∨ (o' = 2 ∧ c' = 13) ∨ (o' = 3 ∧ c' = 21) ∨ (o' = 4 ∧ c' = 29)) → j < 8 → μ.1 (b + o') j = nI (t (c' + j)) → (stI μ (b + o) k (nI v)).1 (b + o') j = nI (tset t (c + k) v (c' + j)) := by
    intro o' c' j h' hj q
    by_cases e : o' = o
    · have ec : c' = c := by omega
      subst e; subst ec
      rw [stI_same, upd_at]
      by_cases e2 : j = k
      · rw [if_pos e2, e2, ts_same]
      · rw [if_neg e2, ts_ne _ _ (by omega)]; exact q
    · rw [stI_ne _ _ _ (by omega), ts_ne _ _ (by omega)]; exact q
  refine ⟨⟨by rw [e0, f 0 (by decide)]; exact a1, by rw [e0, f 2 (by decide)]; exact a2, by rw [e0, f 3 (by decide)]; exact a3, by rw [e0, f 1 (by decide)]; exact a4, by rw [e0, f 4 (by decide)]; exact a5⟩, fun j q => g 1 5 j (by omega) q (b1 j q), fun j q => g 2 13 j (by omega) q (b2 j q), fun j q => g 3 21 j (by omega) q (b3 j q), fun j q => g 4 29 j (by omega) q (b4 j q), fun j q => ?_⟩
  rw [f 4 (by decide)] at q
  rw [stI_ne _ _ _ (by omega)]
  by_cases e : 37 + j = c + k
  · omega
  · rw [ts_ne _ _ e]; exact b5 j q
theorem Wf.set {t : Nat → Nat} (h : Wf t) {j v : Nat} (hj : (j = 1 ∧ v < 2 ^ t 0) ∨ (j = 2 ∧ v ≤ 9) ∨ (j = 3 ∧ v < 256) ∨ (5 ≤ j ∧ j < 13 ∧ v ≤ 5) ∨ (13 ≤ j ∧ j < 29 ∧ v ≤ 9) ∨ (29 ≤ j ∧ j < 37 ∧ v ≤ 20)) : Wf (tset t j v) := by
  obtain ⟨a1, a2, a3, a4, a5, a6, a7, a8, a9, a10, a11⟩ := h
  have e0 : tset t j v 0 = t 0 := ts_ne _ _ (by omega)
  have e4 : tset t j v 4 = t 4 := ts_ne _ _ (by omega)
  unfold Wf
  rw [e0, e4]
  refine ⟨a1, a2, ?_, ?_, ?_, a6, fun k q => ?_, fun k q => ?_, fun k q => ?_, fun k q => ?_, fun k q => ?_⟩
  · by_cases e : 1 = j
    · subst e; rw [ts_same]; rcases hj with hj | hj | hj | hj | hj | hj
      · exact hj.2
      all_goals omega
    · rw [ts_ne _ _ e]; exact a3
  · by_cases e : 2 = j
    · subst e; rw [ts_same]; omega
    · rw [ts_ne _ _ e]; exact a4
  · by_cases e : 3 = j
    · subst e; rw [ts_same]; omega
    · rw [ts_ne _ _ e]; exact a5
  · by_cases e : 5 + k = j
    · rw [e, ts_same]; omega
    · rw [ts_ne _ _ e]; exact a7 k q
  · by_cases e : 13 + k = j
    · rw [e, ts_same]; omega
    · rw [ts_ne _ _ e]; exact a8 k q
  · by_cases e : 21 + k = j
    · rw [e, ts_same]; omega
    · rw [ts_ne _ _ e]; exact a9 k q
  · by_cases e : 29 + k = j
    · rw [e, ts_same]; omega
    · rw [ts_ne _ _ e]; exact a10 k q
  · rw [ts_ne _ _ (by omega)]; exact a11 k q
/-- the field changed alike, all else as it was -/
def SCF (μ μ1 : Mem) : Prop := ∀ k, (k = 0 ∨ k = 13 ∨ 22 ≤ k) → μ1.1 k = μ.1 k
def SMF (ν ν1 : Mem) : Prop := (∀ k, (k = 1 ∨ k = 4 ∨ k = 5 ∨ k = 6) → ν1.1 k = ν.1 k) ∧ ν1.1 0 7 = ν.1 0 7 ∧ ν1.2 17 = ν.2 17 ∧ ν1.2 18 = ν.2 18
theorem SCF.put {μ φ : Mem} : SCF μ (put6 1 0 μ φ) := fun k q => put6_out _ _ _ _ (by omega)
theorem SCF.st {μ : Mem} {k j : Nat} {v : Int32} (h : k ≠ 0 ∧ k ≠ 13 ∧ k < 22) : SCF μ (stI μ k j v) := fun i q => stI_ne μ j v (by omega)
theorem SCF.tr {a b c : Mem} (h1 : SCF a b) (h2 : SCF b c) : SCF a c := fun k q => (h2 k q).trans (h1 k q)
theorem SCF.of {a b : Mem} (h : SC a b) : SCF a b := fun k q => h k (by omega)
theorem SMF.tr {a b c : Mem} (h1 : SMF a b) (h2 : SMF b c) : SMF a c := ⟨fun k q => (h2.1 k q).trans (h1.1 k q), h2.2.1.trans h1.2.1, h2.2.2.1.trans h1.2.2.1, h2.2.2.2.trans h1.2.2.2⟩
theorem SMF.of {a b : Mem} (h : SM a b) : SMF a b := ⟨fun k q => h.1 k (by omega), h.2⟩
theorem SMF.st {ν : Mem} {j : Nat} {v : Int32} : SMF ν (stI ν 2 j v) := ⟨fun k q => stI_ne ν j v (by omega), by rw [stI_ne ν j v (by decide)], rfl, rfl⟩
theorem SMF.no2 {ν ν1 : Mem} (h : ∀ k, k ≠ 2 → ν1.1 k = ν.1 k) (h2 : ν1.2 = ν.2) : SMF ν ν1 := ⟨fun k q => h k (by omega), by rw [h 0 (by decide)], by rw [h2], by rw [h2]⟩
theorem Rel.fld {μ ν μ1 ν1 : Mem} (h : Rel μ ν) (hc : SCF μ μ1) (hm : SMF ν ν1) (hf : Fld μ1 ν1) : Rel μ1 ν1 := by
  obtain ⟨_, s, x, r, i⟩ := h
  refine ⟨hf, ?_, x.same (by rw [hc 0 (by omega)]) (hc 13 (by omega)) hm.2.1 (hm.1 6 (by omega)), ?_, i.same (fun k q => hc k (by omega)) (hm.1 5 (by omega)) (hm.1 4 (by omega))⟩
  · unfold Rst; rw [hc 0 (by omega), hm.1 1 (by omega)]; exact s
  · unfold Rfr; rw [hc 0 (by omega), hm.2.2.1, hm.2.2.2]; exact r
theorem ok_fld {μ ν μ1 ν1 : Mem} {t : Nat → Nat} (h : Rel μ ν) (hc : SCF μ μ1) (hm : SMF ν ν1) (h1 : Wf t) (h2 : CF μ1 1 t) (h3 : MF (ν1.1 2) t) {x y : Int32} (hxy : x = y) : okI Rel (some (x, μ1)) (some (y, ν1)) := ⟨x, μ1, ν1, rfl, by rw [hxy], h.fld hc hm ⟨t, h1, h2, h3⟩⟩
/-! pitching -/
def pitchT (n : Nat) : Nat → Nat := fun i => if i = 0 then n else if i = 1 then 2 ^ n - 1 else if i < 13 then 0 else if i < 21 then 5 else if i < 29 then 4 else if i < 37 then 1 else 0
theorem pitch_wf {n : Nat} (h2 : 2 ≤ n) (h8 : n ≤ 8) : Wf (pitchT n) := by
  have hp : 0 < 2 ^ n := Nat.pow_pos (by decide)
  refine ⟨h2, h8, ?_, Nat.zero_le _, (by decide : 0 < 256), Nat.zero_le _, fun k q => ?_, fun k q => ?_, fun k q => ?_, fun k q => ?_, fun k q => absurd q (by simp [pitchT])⟩
  · show 2 ^ n - 1 < 2 ^ n; omega
  all_goals
    unfold pitchT
    repeat' split
    all_goals omega
theorem allT : ∀ n, n < 9 → (1 <<< (nI n &&& 31)) - 1 = nI (2 ^ n - 1) := by decide +kernel
theorem C_drive (φ : Mem) (k : Nat) (hk : k < 8) (a b c : Int32) : F_F_drive φ (nI k) a b c = some (stI (stI (stI φ 1 k a) 2 k b) 3 k c) := by
  unfold F_F_drive
  rw [gd_nI hk (by decide), gd_nI hk (by decide), gd_nI hk (by decide), nclamp (by omega)]
theorem C_pitch_53 : ∀ d, d < 1000 → ∀ (φ : Mem) (i : Nat), i + d = 8 → ∃ φ1, F_F_pitch_53 φ (nI i) = some φ1 ∧ (∀ k, k ≠ 4 → φ1.1 k = φ.1 k) ∧ ∀ j, φ1.1 4 j = if i ≤ j ∧ j < 8 then nI 1 else φ.1 4 j := by
  refine fun d hd => iter_run (fun d (g : Mem → Int32 → Option Mem) => ∀ (φ : Mem) (i : Nat), i + d = 8 → ∃ φ1, g φ (nI i) = some φ1 ∧ (∀ k, k ≠ 4 → φ1.1 k = φ.1 k) ∧ ∀ j, φ1.1 4 j = if i ≤ j ∧ j < 8 then nI 1 else φ.1 4 j) ?_ ?_ NF d (NF_lt hd)
  · intro g φ i hi
    unfold S_F_pitch_53
    rw [lit 8, if_pos ((nI_leI (by decide) (by omega)).mpr (by omega))]
    exact ⟨φ, rfl, fun _ _ => rfl, fun j => by rw [if_neg (by omega)]⟩
  · intro d g ih φ i hi
    unfold S_F_pitch_53
    rw [lit 8, lit 1, if_neg (fun q => by have := (nI_leI (by decide) (by omega)).mp q; omega), gd_nI (by omega) (by decide), nclamp (by omega), nI_add]
    obtain ⟨φ1, e1, e2, e3⟩ := ih (stI φ 4 i (nI 1)) (i + 1) (by omega)
    refine ⟨φ1, e1, fun k q => by rw [e2 k q, stI_ne _ _ _ q], fun j => ?_⟩
    rw [e3, stI_same, upd_at]
    by_cases c : j = i
    · rw [if_neg (by omega), if_pos c, if_pos (by omega)]
    · rw [if_neg c]
      by_cases c2 : i ≤ j ∧ j < 8
      · rw [if_pos c2, if_pos (by omega)]
      · rw [if_neg c2, if_neg (by omega)]
theorem C_pitch_31 : ∀ d, d < 1000 → ∀ (φ : Mem) (i : Nat), i + d = 8 → ∃ φ1, F_F_pitch_31 φ (nI i) = some φ1 ∧ φ1.1 0 = φ.1 0 ∧ (∀ j, φ1.1 1 j = if i ≤ j ∧ j < 8 then nI 0 else φ.1 1 j) ∧ (∀ j, φ1.1 2 j = if i ≤ j ∧ j < 8 then nI 5 else φ.1 2 j) ∧ (∀ j, φ1.1 3 j = if i ≤ j ∧ j < 8 then nI 4 else φ.1 3 j) ∧ ∀ j, j < 8 → φ1.1 4 j = nI 1 := by
  refine fun d hd => iter_run (fun d (g : Mem → Int32 → Option Mem) => ∀ (φ : Mem) (i : Nat), i + d = 8 → ∃ φ1, g φ (nI i) = some φ1 ∧ φ1.1 0 = φ.1 0 ∧ (∀ j, φ1.1 1 j = if i ≤ j ∧ j < 8 then nI 0 else φ.1 1 j) ∧ (∀ j, φ1.1 2 j = if i ≤ j ∧ j < 8 then nI 5 else φ.1 2 j) ∧ (∀ j, φ1.1 3 j = if i ≤ j ∧ j < 8 then nI 4 else φ.1 3 j) ∧ ∀ j, j < 8 → φ1.1 4 j = nI 1) ?_ ?_ NF d (NF_lt hd)
  · intro g φ i hi
    unfold S_F_pitch_31
    rw [lit 8, lit 0, if_pos ((nI_leI (by decide) (by omega)).mpr (by omega))]
    obtain ⟨φ1, e1, e2, e3⟩ := C_pitch_53 8 (by decide) φ 0 rfl
    refine ⟨φ1, e1, e2 0 (by decide), fun j => ?_, fun j => ?_, fun j => ?_, fun j q => by rw [e3, if_pos (by omega)]⟩
    all_goals rw [e2 _ (by decide), if_neg (by omega)]
  · intro d g ih φ i hi
    unfold S_F_pitch_31
    rw [lit 8, lit 1, lit 0, lit 5, lit 4, if_neg (fun q => by have := (nI_leI (by decide) (by omega)).mp q; omega), C_drive φ i (by omega), bnd_s, nI_add]
    obtain ⟨φ1, e1, e2, e3, e4, e5, e6⟩ := ih (stI (stI (stI φ 1 i (nI 0)) 2 i (nI 5)) 3 i (nI 4)) (i + 1) (by omega)
    refine ⟨φ1, e1, e2, fun j => ?_, fun j => ?_, fun j => ?_, e6⟩
    · rw [e3, stI_ne _ _ _ (by decide), stI_ne _ _ _ (by decide), stI_same, upd_at]
      by_cases c : j = i
      · rw [if_neg (by omega), if_pos c, if_pos (by omega)]
      · rw [if_neg c]
        by_cases c2 : i ≤ j ∧ j < 8
        · rw [if_pos c2, if_pos (by omega)]
        · rw [if_neg c2, if_neg (by omega)]
    · rw [e4, stI_ne _ _ _ (by decide), stI_same, upd_at, stI_ne _ _ _ (by decide)]
      by_cases c : j = i
      · rw [if_neg (by omega), if_pos c, if_pos (by omega)]
      · rw [if_neg c]
        by_cases c2 : i ≤ j ∧ j < 8
        · rw [if_pos c2, if_pos (by omega)]
        · rw [if_neg c2, if_neg (by omega)]
    · rw [e5, stI_same, upd_at, stI_ne _ _ _ (by decide), stI_ne _ _ _ (by decide)]
      by_cases c : j = i
      · rw [if_neg (by omega), if_pos c, if_pos (by omega)]
      · rw [if_neg c]
        by_cases c2 : i ≤ j ∧ j < 8
        · rw [if_pos c2, if_pos (by omega)]
        · rw [if_neg c2, if_neg (by omega)]
theorem C_pitch (φ : Mem) {n : Nat} (h8 : n ≤ 8) : ∃ φ1, F_F_pitch φ (nI n) = some φ1 ∧ CF φ1 0 (pitchT n) := by
  unfold F_F_pitch
  rw [allT n (by omega)]
  obtain ⟨φ1, e1, e2, e3, e4, e5, e6⟩ := C_pitch_31 8 (by decide) (stI (stI (stI (stI (stI φ 0 0 (nI n)) 0 1 0) 0 2 0) 0 3 (nI (2 ^ n - 1))) 0 4 0) 0 rfl
  refine ⟨φ1, e1, ⟨?_, ?_, ?_, ?_, ?_⟩, fun k q => ?_, fun k q => ?_, fun k q => ?_, fun k q => ?_, fun k q => absurd q (by simp [pitchT])⟩
  · rw [e2]; rfl
  · rw [e2]; rfl
  · rw [e2]; rfl
  · rw [e2]; rfl
  · rw [e2]; rfl
  · rw [e3, if_pos (by omega)]; unfold pitchT; rw [if_neg (by omega), if_neg (by omega), if_pos (by omega)]
  · rw [e4, if_pos (by omega)]; unfold pitchT; rw [if_neg (by omega), if_neg (by omega), if_neg (by omega), if_pos (by omega)]
  · rw [e5, if_pos (by omega)]; unfold pitchT; rw [if_neg (by omega), if_neg (by omega), if_neg (by omega), if_neg (by omega), if_pos (by omega)]
  · rw [e6 _ q]; unfold pitchT; rw [if_neg (by omega), if_neg (by omega), if_neg (by omega), if_neg (by omega), if_neg (by omega), if_pos (by omega)]
theorem M_pitch_2 {n : Nat} (h8 : n ≤ 8) : ∀ d, d < 1000 → ∀ (ν : Mem) (i : Nat), i + d = 47 → (∀ j, 1 < j → j < i → ν.1 2 j = nI (pitchT n j)) → ∃ ν1, F_M_pitch_2 ν (nI n) (nI i) = some ν1 ∧ MF (ν1.1 2) (pitchT n) ∧ (∀ k, k ≠ 2 → ν1.1 k = ν.1 k) ∧ ν1.2 = ν.2 := by
  refine fun d hd => iter_run (fun d (g : Mem → Int32 → Int32 → Option Mem) => ∀ (ν : Mem) (i : Nat), i + d = 47 → (∀ j, 1 < j → j < i → ν.1 2 j = nI (pitchT n j)) → ∃ ν1, g ν (nI n) (nI i) = some ν1 ∧ MF (ν1.1 2) (pitchT n) ∧ (∀ k, k ≠ 2 → ν1.1 k = ν.1 k) ∧ ν1.2 = ν.2) ?_ ?_ NF d (NF_lt hd)
  · intro g ν i hi hj
    unfold S_M_pitch_2
    rw [lit 47, if_pos ((nI_leI (by decide) (by omega)).mpr (by omega)), allT n (by omega), gd_t (by decide), gd_t (by decide)]
    refine ⟨_, rfl, fun j q => ?_, fun k q => by rw [stI_ne _ _ _ q, stI_ne _ _ _ q], rfl⟩
    rw [stI_same, stI_same]
    show upd (upd (ν.1 2) 0 (nI n)) 1 (nI (2 ^ n - 1)) j = _
    by_cases c1 : j = 1
    · rw [c1, upd_same]; rfl
    · rw [upd_ne _ _ c1]
      by_cases c0 : j = 0
      · rw [c0, upd_same]; rfl
      · rw [upd_ne _ _ c0]; exact hj j (by omega) (by omega)
  · intro d g ih ν i hi hj
    have step : ∀ v, (1 < i → v = pitchT n i) → ∃ ν1, g (stI ν 2 i (nI v)) (nI n) (nI (i + 1)) = some ν1 ∧ MF (ν1.1 2) (pitchT n) ∧ (∀ k, k ≠ 2 → ν1.1 k = ν.1 k) ∧ ν1.2 = ν.2 := by
      intro v hv
      obtain ⟨ν1, e1, e2, e3, e4⟩ := ih (stI ν 2 i (nI v)) (i + 1) (by omega) (fun j p q => by
        rw [stI_same, upd_at]
        by_cases c : j = i
        · rw [if_pos c, c, hv (by omega)]
        · rw [if_neg c]; exact hj j p (by omega))
      exact ⟨ν1, e1, e2, fun k q => by rw [e3 k q, stI_ne _ _ _ q], e4⟩
    unfold S_M_pitch_2 F_M_pitch_29 F_M_pitch_45
    simp only [lit]
    rw [if_neg (show ¬ nI 47 ≤ nI i from fun q => by have := (nI_leI (by decide) (by omega)).mp q; omega), nclamp (by omega), nI_add]
    simp only [gd_nI (show i < 47 by omega) (show 47 < 2 ^ 31 by decide)]
    simp only [nI_ltI (show i < 2 ^ 31 by omega) (show 13 < 2 ^ 31 by decide), nI_ltI (show i < 2 ^ 31 by omega) (show 21 < 2 ^ 31 by decide), nI_ltI (show i < 2 ^ 31 by omega) (show 29 < 2 ^ 31 by decide), nI_leI (show 21 < 2 ^ 31 by decide) (show i < 2 ^ 31 by omega), nI_leI (show 29 < 2 ^ 31 by decide) (show i < 2 ^ 31 by omega), nI_leI (show 37 < 2 ^ 31 by decide) (show i < 2 ^ 31 by omega)]
    repeat' split
    all_goals first
      | omega
      | refine step _ (fun p => ?_)
        unfold pitchT
        repeat' split
        all_goals omega
theorem M_pitch (ν : Mem) {n : Nat} (h8 : n ≤ 8) : ∃ ν1, F_M_pitch ν (nI n) = some ν1 ∧ MF (ν1.1 2) (pitchT n) ∧ (∀ k, k ≠ 2 → ν1.1 k = ν.1 k) ∧ ν1.2 = ν.2 := by
  unfold F_M_pitch
  rw [lit 0]
  exact M_pitch_2 h8 47 (by decide) ν 0 rfl (fun j p q => by omega)
