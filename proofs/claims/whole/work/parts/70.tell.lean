/-! Pure part (41): an item told. -/
def tellS (t : Nat → Nat) (w : Nat) (v : Nat → Nat) : Option (Nat → Nat) :=
  if w = 4 then (if 2 ≤ v 0 ∧ v 0 ≤ 8 then some (pitchT (v 0)) else none)
  else if w = 5 then (if v 0 < t 0 ∧ v 1 ≤ 5 ∧ v 2 ≤ 9 ∧ v 3 ≤ 9 then some (tset (tset (tset t (5 + v 0) (v 1)) (13 + v 0) (v 2)) (21 + v 0) (v 3)) else none)
  else if w = 6 then (if v 0 ≤ 9 then some (tset t 2 (v 0)) else none)
  else if w = 7 then (if v 0 < 8 ∧ (t 3).testBit (v 0) = false then some (tset t 3 (tog (t 3) (v 0))) else none)
  else if w = 8 then (if v 0 < 8 ∧ v 1 ≤ 20 then some (tset t (29 + v 0) (v 1)) else none)
  else (if v 0 < t 0 ∧ (t 1).testBit (v 0) = true then some (tset t 1 (tog (t 1) (v 0))) else none)
/-- what follows of it -/
def TS (μ μ1 : Mem) : Prop := ∀ k, (k < 16 ∨ 22 ≤ k) → μ1.1 k = μ.1 k
theorem TS.rf (μ : Mem) : TS μ μ := fun _ _ => rfl
theorem TS.put {μ φ : Mem} : TS μ (put6 16 0 μ φ) := fun k q => put6_out _ _ _ _ (by omega)
theorem TS.st {μ : Mem} {k j : Nat} {v : Int32} (h : 16 ≤ k ∧ k < 22) : TS μ (stI μ k j v) := fun i q => stI_ne _ _ _ (by omega)
def tout (r : Option (Nat → Nat)) (μ : Mem) (o : Option (Int32 × Mem)) : Prop := match r with
  | none => o = some (0, μ)
  | some t' => ∃ μ1, o = some (1, μ1) ∧ CF μ1 16 t' ∧ Wf t' ∧ t' 4 = 0 ∧ TS μ μ1
theorem tout_y {μ μ1 : Mem} {t' : Nat → Nat} {o : Option (Int32 × Mem)} (h : o = some (1, μ1)) (h1 : CF μ1 16 t') (h2 : Wf t') (h3 : t' 4 = 0) (h4 : TS μ μ1) : tout (some t') μ o := ⟨μ1, h, h1, h2, h3, h4⟩
theorem within_b {x lo hi : Nat} (hx : x < 2 ^ 31) (h1 : lo < 2 ^ 31) (h2 : hi < 2 ^ 31) : F_T_within (nI x) (nI lo) (nI hi) = some (nI (if lo ≤ x ∧ x ≤ hi then 1 else 0)) := by
  rw [T_within (nI x) lo hi h1 h2, nI_toInt hx]
  by_cases c : lo ≤ x ∧ x ≤ hi
  · rw [if_pos c, if_pos (by omega)]
  · rw [if_neg c, if_neg (by omega)]
theorem in_b {x lo hi : Nat} (hx : x < 2 ^ 31) (h1 : lo < 2 ^ 31) (h2 : hi < 2 ^ 31) : F_M_in (nI x).toInt64 (lN lo) (lN hi) = some (nI (if lo ≤ x ∧ x ≤ hi then 1 else 0)) := by
  rw [M_in (nI x) lo hi h1 h2, nI_toInt hx]
  by_cases c : lo ≤ x ∧ x ≤ hi
  · rw [if_pos c, if_pos (by omega)]
  · rw [if_neg c, if_neg (by omega)]
theorem C_tent {μ : Mem} {x : Nat} (hx : x < 100) : tout (if 2 ≤ x ∧ x ≤ 8 then some (pitchT x) else none) μ (F_R_tellTent μ (nI x)) := by
  unfold F_R_tellTent F_F_mayPitch
  rw [show F_T_within (nI x) 2 8 = _ from within_b (by omega) (by decide) (by decide)]
  by_cases c : 2 ≤ x ∧ x ≤ 8
  · rw [if_pos c, if_pos c, bnd_s, gz1, bnd_s, br1]
    obtain ⟨φ, e1, e2⟩ := C_pitch (sub 16 μ) c.2
    rw [e1, bnd_s]
    exact tout_y rfl (CF.put e2) (pitch_wf c.1 c.2) rfl TS.put
  · rw [if_neg c, if_neg c, bnd_s, gz0, bnd_s, br0]
    exact rfl
theorem C_tpeg {μ : Mem} {t : Nat → Nat} (h : CF μ 16 t) (w : Wf t) (h4 : t 4 = 0) {x a b d : Nat} (hx : x < 100) (ha : a < 100) (hb : b < 100) (hd : d < 100) : tout (if x < t 0 ∧ a ≤ 5 ∧ b ≤ 9 ∧ d ≤ 9 then some (tset (tset (tset t (5 + x) a) (13 + x) b) (21 + x) d) else none) μ (F_R_tellPeg μ (nI x) (nI a) (nI b) (nI d)) := by
  have hn : 2 ≤ t 0 ∧ t 0 ≤ 8 := ⟨w.1, w.2.1⟩
  unfold F_R_tellPeg F_F_mayDrive F_F_hasPeg
  rw [show (sub 16 μ).1 0 0 = nI (t 0) from h.1.1, lit 1, nsub (by omega), show F_T_within (nI x) 0 (nI (t 0 - 1)) = _ from within_b (by omega) (by decide) (by omega), show F_T_within (nI a) 0 5 = _ from within_b (by omega) (by decide) (by decide), show F_T_within (nI b) 0 9 = _ from within_b (by omega) (by decide) (by decide), show F_T_within (nI d) 0 9 = _ from within_b (by omega) (by decide) (by decide)]
  by_cases c1 : x < t 0
  · rw [if_pos (show 0 ≤ x ∧ x ≤ t 0 - 1 by omega), bnd_s, gz1, bnd_s, br1]
    by_cases c2 : a ≤ 5
    · rw [if_pos (show 0 ≤ a ∧ a ≤ 5 by omega), bnd_s, br1]
      by_cases c3 : b ≤ 9
      · rw [if_pos (show 0 ≤ b ∧ b ≤ 9 by omega), bnd_s, br1]
        by_cases c4 : d ≤ 9
        · rw [if_pos (show 0 ≤ d ∧ d ≤ 9 by omega), bnd_s, br1, bnd_s, br1, C_drive _ x (by omega), bnd_s, if_pos ⟨c1, c2, c3, c4⟩]
          exact tout_y rfl (CF.put (C_driven (b := 0) h.sub (by omega))) (wf_driven w (by omega) c2 c3 c4) (by rw [ts_ne _ _ (by omega), ts_ne _ _ (by omega), ts_ne _ _ (by omega)]; exact h4) TS.put
        · rw [if_neg (show ¬ (0 ≤ d ∧ d ≤ 9) by omega), bnd_s, br0, bnd_s, if_pos (show (0 : Int32) = 0 from rfl), if_neg (fun z => c4 z.2.2.2)]; exact rfl
      · rw [if_neg (show ¬ (0 ≤ b ∧ b ≤ 9) by omega), bnd_s, br0, bnd_s, if_pos (show (0 : Int32) = 0 from rfl), if_neg (fun z => c3 z.2.2.1)]; exact rfl
    · rw [if_neg (show ¬ (0 ≤ a ∧ a ≤ 5) by omega), bnd_s, br0, bnd_s, if_pos (show (0 : Int32) = 0 from rfl), if_neg (fun z => c2 z.2.1)]; exact rfl
  · rw [if_neg (show ¬ (0 ≤ x ∧ x ≤ t 0 - 1) by omega), bnd_s, gz0, bnd_s, br0, bnd_s, if_pos (show (0 : Int32) = 0 from rfl), if_neg (fun z => c1 z.1)]; exact rfl
theorem C_twet {μ : Mem} {t : Nat → Nat} (h : CF μ 16 t) (w : Wf t) (h4 : t 4 = 0) {x : Nat} (hx : x < 100) : tout (if x ≤ 9 then some (tset t 2 x) else none) μ (F_R_tellWet μ (nI x)) := by
  unfold F_R_tellWet F_F_mayWet
  rw [show F_T_within (nI x) 0 9 = _ from within_b (by omega) (by decide) (by decide)]
  by_cases c : x ≤ 9
  · rw [if_pos (show 0 ≤ x ∧ x ≤ 9 by omega), bnd_s, gz1, bnd_s, br1, if_pos c]
    exact tout_y rfl (h.s (by omega)) (w.set (by omega)) (by rw [ts_ne _ _ (by omega)]; exact h4) (TS.st (by omega))
  · rw [if_neg (show ¬ (0 ≤ x ∧ x ≤ 9) by omega), bnd_s, gz0, bnd_s, br0, if_neg c]; exact rfl
theorem C_twall {μ : Mem} {t : Nat → Nat} (h : CF μ 16 t) (w : Wf t) (h4 : t 4 = 0) {x : Nat} (hx : x < 100) : tout (if x < 8 ∧ (t 3).testBit x = false then some (tset t 3 (tog (t 3) x)) else none) μ (F_R_tellWall μ (nI x)) := by
  have h256 : t 3 < 256 := w.2.2.2.2.1
  unfold F_R_tellWall F_T_isWay F_F_hasWall F_F_putWall
  rw [show F_T_within (nI x) 0 7 = _ from within_b (by omega) (by decide) (by decide), show (sub 16 μ).1 0 2 = nI (t 3) from h.1.2.2.1]
  by_cases c : x < 8
  · rw [if_pos (show 0 ≤ x ∧ x ≤ 7 by omega), bnd_s, gz1, bnd_s, br1, hasT _ h256 _ c, bnd_s, gd_t (by unfold isZ; cases (t 3).testBit x <;> decide), bnd_s]
    cases hb : (t 3).testBit x with
    | true => rw [if_neg (show ¬ nI true.toNat = 0 by decide), if_neg (show ¬ (x < 8 ∧ true = false) from fun z => by cases z.2)]; exact rfl
    | false =>
      rw [if_pos (show nI false.toNat = 0 by decide), show F_T_with (nI (t 3)) (nI x) 1 = _ from tog_with _ h256 _ c 1 (by decide) (by rw [hb]; decide), bnd_s, bnd_s, if_pos (show x < 8 ∧ false = false from ⟨c, rfl⟩)]
      exact tout_y rfl (CF.put (h.sub.s (by omega))) (w.set (Or.inr (Or.inr (Or.inl ⟨rfl, tog_lt _ h256 _ c⟩)))) (by rw [ts_ne _ _ (by omega)]; exact h4) TS.put
  · rw [if_neg (show ¬ (0 ≤ x ∧ x ≤ 7) by omega), bnd_s, gz0, bnd_s, br0, if_neg (fun z => c z.1)]; exact rfl
theorem C_todds {μ : Mem} {t : Nat → Nat} (h : CF μ 16 t) (w : Wf t) (h4 : t 4 = 0) {x y : Nat} (hx : x < 100) (hy : y < 100) : tout (if x < 8 ∧ y ≤ 20 then some (tset t (29 + x) y) else none) μ (F_R_tellOdds μ (nI x) (nI y)) := by
  unfold F_R_tellOdds F_F_mayBet F_T_isWay
  rw [show F_T_within (nI x) 0 7 = _ from within_b (by omega) (by decide) (by decide), show F_T_within (nI y) 0 20 = _ from within_b (by omega) (by decide) (by decide)]
  by_cases c : x < 8
  · rw [if_pos (show 0 ≤ x ∧ x ≤ 7 by omega), bnd_s, gz1, bnd_s, br1]
    by_cases c2 : y ≤ 20
    · rw [if_pos (show 0 ≤ y ∧ y ≤ 20 by omega), bnd_s, br1, bnd_s, if_neg (show ¬ (1 : Int32) = 0 by decide), gd_nI c (by decide), nclamp (by omega), if_pos ⟨c, c2⟩]
      exact tout_y rfl (h.r (o := 4) (c := 29) (by omega) c) (w.set (by omega)) (by rw [ts_ne _ _ (by omega)]; exact h4) (TS.st (by omega))
    · rw [if_neg (show ¬ (0 ≤ y ∧ y ≤ 20) by omega), bnd_s, br0, bnd_s, if_pos (show (0 : Int32) = 0 from rfl), if_neg (fun z => c2 z.2)]; exact rfl
  · rw [if_neg (show ¬ (0 ≤ x ∧ x ≤ 7) by omega), bnd_s, gz0, bnd_s, br0, bnd_s, if_pos (show (0 : Int32) = 0 from rfl), if_neg (fun z => c z.1)]; exact rfl
theorem C_tgone {μ : Mem} {t : Nat → Nat} (h : CF μ 16 t) (w : Wf t) (h4 : t 4 = 0) {x : Nat} (hx : x < 100) : tout (if x < t 0 ∧ (t 1).testBit x = true then some (tset t 1 (tog (t 1) x)) else none) μ (F_R_tellGone μ (nI x)) := by
  have hn : 2 ≤ t 0 ∧ t 0 ≤ 8 := ⟨w.1, w.2.1⟩
  have h256 := w.st256
  unfold F_R_tellGone F_F_hasPeg
  rw [show (sub 16 μ).1 0 0 = nI (t 0) from h.1.1, lit 1, nsub (by omega), show F_T_within (nI x) 0 (nI (t 0 - 1)) = _ from within_b (by omega) (by decide) (by omega), show μ.1 16 3 = nI (t 1) from h.1.2.2.2.1]
  by_cases c : x < t 0
  · rw [if_pos (show 0 ≤ x ∧ x ≤ t 0 - 1 by omega), bnd_s, gz1, bnd_s, br1, hasT _ h256 _ (by omega), bnd_s]
    cases hb : (t 1).testBit x with
    | false => rw [if_pos (show nI false.toNat = 0 by decide), if_neg (show ¬ (x < t 0 ∧ false = true) from fun z => by cases z.2)]; exact rfl
    | true =>
      rw [if_neg (show ¬ nI true.toNat = 0 by decide), show F_T_with (nI (t 1)) (nI x) 0 = _ from tog_with _ h256 _ (by omega) 0 (by decide) (by rw [hb]; decide), bnd_s, if_pos (show x < t 0 ∧ true = true from ⟨c, rfl⟩)]
      exact tout_y rfl (h.s (by omega)) (w.set (Or.inl ⟨rfl, tog_lt2 _ (by omega) _ w.2.2.1 _ c⟩)) (by rw [ts_ne _ _ (by omega)]; exact h4) (TS.st (by omega))
  · rw [if_neg (show ¬ (0 ≤ x ∧ x ≤ t 0 - 1) by omega), bnd_s, gz0, bnd_s, br0, if_neg (fun z => c z.1)]; exact rfl
theorem tout_gz {r : Option (Nat → Nat)} {μ : Mem} {o : Option (Int32 × Mem)} (h : tout r μ o) : tout r μ (bnd o (fun q => (fun (r1 : Int32) (m1 : Mem) => gd (isZ r1) (some (r1, m1))) q.1 q.2)) := by
  cases r with
  | none =>
    have h' : o = some (0, μ) := h
    rw [h']; exact rfl
  | some t' =>
    obtain ⟨μ1, e, h1⟩ := h
    exact ⟨μ1, by rw [e]; rfl, h1⟩
theorem C_tell {μ : Mem} {t : Nat → Nat} {w : Nat} {v : Nat → Nat} (hw : 4 ≤ w ∧ w ≤ 9) (h : w = 4 ∨ (CF μ 16 t ∧ Wf t ∧ t 4 = 0)) (hv : ∀ j, j < cnt w → v j < 100 ∧ μ.1 15 j = nI (v j)) : tout (tellS t w v) μ (F_R_tell μ (nI w)) := by
  have hc := cnt_le w
  have v0 := hv 0 (by omega)
  unfold F_R_tell
  rw [gd_t (by decide), show (0 : Int32).toNatClampNeg = 0 from rfl, v0.2]
  rcases (show w = 4 ∨ w = 5 ∨ w = 6 ∨ w = 7 ∨ w = 8 ∨ w = 9 by omega) with rfl | rfl | rfl | rfl | rfl | rfl
  · rw [if_pos (by decide)]
    exact tout_gz (C_tent v0.1)
  · obtain ⟨h1, h2, h3⟩ := h.resolve_left (by decide)
    have v1 := hv 1 (by decide)
    have v2 := hv 2 (by decide)
    have v3 := hv 3 (by decide)
    rw [if_neg (by decide), if_pos (by decide), gd_t (by decide), gd_t (by decide), gd_t (by decide), show (1 : Int32).toNatClampNeg = 1 from rfl, show (2 : Int32).toNatClampNeg = 2 from rfl, show (3 : Int32).toNatClampNeg = 3 from rfl, v1.2, v2.2, v3.2]
    exact tout_gz (C_tpeg h1 h2 h3 v0.1 v1.1 v2.1 v3.1)
  · obtain ⟨h1, h2, h3⟩ := h.resolve_left (by decide)
    rw [if_neg (by decide), if_neg (by decide), if_pos (by decide)]
    exact tout_gz (C_twet h1 h2 h3 v0.1)
  · obtain ⟨h1, h2, h3⟩ := h.resolve_left (by decide)
    rw [if_neg (by decide), if_neg (by decide), if_neg (by decide), if_pos (by decide)]
    exact tout_gz (C_twall h1 h2 h3 v0.1)
  · obtain ⟨h1, h2, h3⟩ := h.resolve_left (by decide)
    have v1 := hv 1 (by decide)
    rw [if_neg (by decide), if_neg (by decide), if_neg (by decide), if_neg (by decide), if_pos (by decide), gd_t (by decide), show (1 : Int32).toNatClampNeg = 1 from rfl, v1.2]
    exact tout_gz (C_todds h1 h2 h3 v0.1 v1.1)
  · obtain ⟨h1, h2, h3⟩ := h.resolve_left (by decide)
    rw [if_neg (by decide), if_neg (by decide), if_neg (by decide), if_neg (by decide), if_neg (by decide)]
    exact tout_gz (C_tgone h1 h2 h3 v0.1)
