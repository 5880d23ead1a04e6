/-! Pure part (15): strokes and lending. -/
def de (P : Nat → Nat) (p : Nat) : Nat → Nat → Nat
  | 0, x => x
  | d + 1, x => if P x < p then de P p d (x + 1) else x
theorem de_le (P : Nat → Nat) (p : Nat) : ∀ d x, x ≤ de P p d x ∧ de P p d x ≤ x + d := by
  intro d
  induction d with
  | zero => intro x; exact ⟨Nat.le_refl _, Nat.le_refl _⟩
  | succ d ih =>
    intro x
    show x ≤ (if P x < p then de P p d (x + 1) else x) ∧ (if P x < p then de P p d (x + 1) else x) ≤ _
    have := ih (x + 1)
    split <;> omega
theorem de_0 (P : Nat → Nat) (d x : Nat) : de P 0 (d + 1) x = x := if_neg (Nat.not_lt_zero _)
def hP (t : Nat → Nat) (st k : Nat) : Nat → Nat := fun x => holdK t (t (5 + k)) x st k
def nP (t : Nat → Nat) (st v s wl k : Nat) : Nat := if st.testBit k then pull t k v s 0 wl else 0
theorem nP_le {t : Nat → Nat} {st v s wl k : Nat} (hs : s ≤ 61) : nP t st v s wl k ≤ 76 := by
  unfold nP; split
  · exact pull_le hs
  · omega
theorem C_deep {μ : Mem} {t : Nat → Nat} {st wl r : Nat} (h : GS μ t st wl r 0) {k p : Nat} (hk : k < t 0) (hp : p ≤ 76) : ∀ d, d < 1000 → ∀ x, x + d = 10 → F_P_deepEnough μ (nI k) (nI x) (nI p) = some (nI (de (hP t st k) p d x)) := by
  refine fun d hd => iter_run (fun d (g : Mem → Int32 → Int32 → Int32 → Option Int32) => ∀ x, x + d = 10 → g μ (nI k) (nI p) (nI x) = some (nI (de (hP t st k) p d x))) ?_ ?_ NF d (NF_lt hd)
  · intro g x hx
    unfold S_P_deepEnough_3
    rw [lit 9, lit 10, if_pos ((nI_ltI (by omega) (by omega)).mpr (by omega)), show x = 10 by omega]
    rfl
  · intro d g ih x hx
    unfold S_P_deepEnough_3
    have hn := h.n2
    have hH : holdK t (t (5 + k)) x st k ≤ 150 := hold_leK (h.2.1.2.2.2.2.2.2.2.2.1 k (by omega)) (by omega)
    rw [lit 9, if_neg (fun q => by have := (nI_ltI (by omega) (by omega)).mp q; omega), C_holdsAt h hk (by omega), bnd_s, lit 1, nI_add, ih (x + 1) (by omega), tD_0]
    show _ = some (nI (if holdK t (t (5 + k)) x st k < p then de (hP t st k) p d (x + 1) else x))
    by_cases c : holdK t (t (5 + k)) x st k < p
    · rw [if_pos ((nI_ltI (by omega) (by omega)).mpr c), if_pos c]
    · rw [if_neg (fun q => c ((nI_ltI (by omega) (by omega)).mp q)), if_neg c]
theorem stI_id (μ : Mem) (k j : Nat) : stI μ k j (μ.1 k j) = μ := by
  refine Prod.ext (funext fun i => ?_) rfl
  rw [stI_row]
  by_cases c : i = k
  · subst c
    rw [if_pos rfl]
    funext l
    rw [upd_at]
    by_cases e : l = j
    · rw [if_pos e, e]
    · rw [if_neg e]
  · rw [if_neg c]
theorem stI_2x (μ : Mem) (k j : Nat) (a b : Int32) : stI (stI μ k j a) k j b = stI μ k j b := by
  refine Prod.ext (funext fun i => ?_) rfl
  rw [stI_row, stI_row, stI_row]
  by_cases c : i = k
  · rw [if_pos c, if_pos c, if_pos c]
    funext l
    rw [upd_at, upd_at, upd_at]
    by_cases e : l = j
    · rw [if_pos e, if_pos e]
    · rw [if_neg e, if_neg e, if_neg e]
  · rw [if_neg c, if_neg c, if_neg c]
theorem holds_dep (t : Nat → Nat) (st k x : Nat) : holds (tset t (13 + k) x) st k = holdK t (t (5 + k)) x st k := by
  unfold holds holdK
  rw [ts_same, ts_ne (i := 5 + k) _ _ (by omega), ts_ne (i := 21 + k) _ _ (by omega), ts_ne (i := 2) _ _ (by omega), ts_ne (i := 0) _ _ (by omega)]
theorem M_depth {ν : Mem} {t : Nat → Nat} (h : MS ν t) {k p x : Nat} (hk : k < t 0) (hp : p ≤ 76) (hx : x ≤ 10) : F_M_depthFor ν (nI k) (nI x) (nI p) = some (nI (de (hP t (t 1) k) p (10 - x) x), ν) := by
  have hn := h.n2
  have key : ∀ d, d < 1000 → ∀ x, x + d = 10 → F_M_depthFor_25 (stI ν 2 (13 + k) (nI x)) (nI k) (nI p) (nI (t (13 + k))) (nI x) = some (nI (de (hP t (t 1) k) p d x), ν) := by
    have fin : ∀ x : Nat, F_M_depthFor_64 (stI ν 2 (13 + k) (nI x)) (nI k) (nI (t (13 + k))) (nI x) = some (nI x, ν) := by
      intro x
      unfold F_M_depthFor_64
      rw [lit 13, nI_add, gd_nI (by omega) (by decide), nclamp (by omega), stI_2x, ← h.at (13 + k) (by omega), stI_id]
    refine fun d hd => iter_run (fun d (g : Mem → Int32 → Int32 → Int32 → Int32 → Option (Int32 × Mem)) => ∀ x, x + d = 10 → g (stI ν 2 (13 + k) (nI x)) (nI k) (nI p) (nI (t (13 + k))) (nI x) = some (nI (de (hP t (t 1) k) p d x), ν)) ?_ ?_ NF d (NF_lt hd)
    · intro g x hx
      unfold S_M_depthFor_25
      rw [lit 10, if_pos ((nI_leI (by omega) (by omega)).mpr (by omega)), fin]
      rfl
    · intro d g ih x hx
      unfold S_M_depthFor_25
      have hT : MS (stI ν 2 (13 + k) (nI x)) (tset t (13 + k) x) := ⟨by rw [stI_same]; exact MF.set h.1 _ _, h.2.set (by omega)⟩
      have hH : holdK t (t (5 + k)) x (t 1) k ≤ 150 := hold_leK (h.gr (by omega)) (by omega)
      rw [lit 10, if_neg (fun q => by have := (nI_leI (by omega) (by omega)).mp q; omega), gd_t (by decide), show (1 : Int32).toNatClampNeg = 1 from rfl, hT.at 1 (by decide), ts_ne (i := 1) _ _ (by omega), M_holds hT (by rw [ts_ne (i := 0) _ _ (by omega)]; exact hk) h.2.st256, bnd_s, holds_dep, fin, lit 13, nI_add, gd_nI (by omega) (by decide), nclamp (by omega), lit 1, nI_add, stI_2x, ih (x + 1) (by omega)]
      show _ = some (nI (if holdK t (t (5 + k)) x (t 1) k < p then de (hP t (t 1) k) p d (x + 1) else x), ν)
      by_cases c : holdK t (t (5 + k)) x (t 1) k < p
      · rw [if_neg (fun q => by have := (nI_leI (by omega) (by omega)).mp q; omega), if_pos c]
      · rw [if_pos ((nI_leI (by omega) (by omega)).mpr (by omega)), if_neg c]
  unfold F_M_depthFor
  rw [lit 13, nI_add, gd_nI (by omega) (by decide), gd_nI (by omega) (by decide), nclamp (by omega), h.at (13 + k) (by omega)]
  exact key (10 - x) (by omega) x (by omega)
/-- how deep each peg must go -/
def fd (t : Nat → Nat) (v s k : Nat) : Nat := de (hP t (t 1) k) (nP t (t 1) v s (t 3) k) (10 - t (13 + k)) (t (13 + k))
def sk (f g : Nat → Nat) : Nat → Nat → Nat → Option Nat
  | 0, _, a => some a
  | d + 1, k, a => if f k = 10 then none else sk f g d (k + 1) (a + (f k - g k))
def rc (f : Nat → Nat) (x : Int32) : Nat → Nat → Int32 → Int32
  | 0, _, y => y
  | d + 1, k, y => rc f x d (k + 1) (if nI k = x then nI (f k) else y)
theorem rc_at (f : Nat → Nat) {j : Nat} (hj : j < 8) : ∀ d k y, k + d ≤ 8 → (k ≤ j → j < k + d → rc f (nI j) d k y = nI (f j)) ∧ (¬ (k ≤ j ∧ j < k + d) → rc f (nI j) d k y = y) := by
  intro d
  induction d with
  | zero => intro k y hk; exact ⟨fun a b => by omega, fun _ => rfl⟩
  | succ d ih =>
    intro k y hk
    obtain ⟨i1, i2⟩ := ih (k + 1) (if nI k = nI j then nI (f k) else y) (by omega)
    have e : rc f (nI j) (d + 1) k y = rc f (nI j) d (k + 1) (if nI k = nI j then nI (f k) else y) := rfl
    rw [e]
    have q : nI k = nI j ↔ k = j := nI_eq (by omega) (by omega)
    refine ⟨fun a b => ?_, fun a => ?_⟩
    · by_cases c : k = j
      · rw [i2 (by omega), if_pos (q.mpr c), c]
      · exact i1 (by omega) (by omega)
    · rw [i2 (by omega), if_neg (fun p => a (by have := q.mp p; omega))]
theorem sk_le {f g : Nat → Nat} : ∀ d k a r, (∀ j, j < k + d → f j ≤ 10) → sk f g d k a = some r → r ≤ a + 10 * d := by
  intro d
  induction d with
  | zero => intro k a r _ h; have : a = r := Option.some.inj h; omega
  | succ d ih =>
    intro k a r hf h
    have h' : (if f k = 10 then none else sk f g d (k + 1) (a + (f k - g k))) = some r := h
    by_cases c : f k = 10
    · rw [if_pos c] at h'; cases h'
    · rw [if_neg c] at h'
      have := ih _ _ _ (fun j hj => hf j (by omega)) h'
      have := hf k (by omega)
      omega
theorem ne_m1 {r : Nat} (h : r < 2 ^ 31) : ¬ nI r = -1 := by
  intro q
  have := congrArg Int32.toInt q
  rw [nI_toInt h, show (-1 : Int32).toInt = -1 from by decide] at this
  omega
theorem C_sk {μ : Mem} {t : Nat → Nat} (h : GB μ t (t 1)) {v s : Nat} (hv : v < 8) (hs : s ≤ 61) : ∀ d, d < 1000 → ∀ k a, k + d = t 0 → F_P_strokesFor_5 μ (nI v) (nI s) (nI a) (nI k) = some (bI (sk (fd t v s) (fun k => t (13 + k)) d k a)) := by
  have hn := GS.n2 h
  refine fun d hd => iter_run (fun d (g : Mem → Int32 → Int32 → Int32 → Int32 → Option Int32) => ∀ k a, k + d = t 0 → g μ (nI v) (nI s) (nI a) (nI k) = some (bI (sk (fd t v s) (fun k => t (13 + k)) d k a))) ?_ ?_ NF d (NF_lt hd)
  · intro g k a hk
    unfold S_P_strokesFor_5
    rw [GS.pegs h, if_pos ((nI_leI (by omega) (by omega)).mpr (by omega))]
    rfl
  · intro d g ih k a hk
    unfold S_P_strokesFor_5
    have hdep : t (13 + k) ≤ 9 := h.2.1.2.2.2.2.2.2.2.1 k (by omega)
    have hf := de_le (hP t (t 1) k) (nP t (t 1) v s (t 3) k) (10 - t (13 + k)) (t (13 + k))
    have hfd : de (hP t (t 1) k) (nP t (t 1) v s (t 3) k) (10 - t (13 + k)) (t (13 + k)) = fd t v s k := rfl
    rw [hfd] at hf
    rw [GS.pegs h, if_neg (fun q => by have := (nI_leI (by omega) (by omega)).mp q; omega), gd_nI (by omega) (by decide), C_pullOn h (by omega) hv hs, bnd_s, nclamp (by omega), show μ.1 3 k = nI (t (13 + k)) from h.1.2.2.1 k (by omega)]
    have e : F_P_deepEnough μ (nI k) (nI (t (13 + k))) (nI (if (t 1).testBit k then pull t k v s 0 (t 3) else 0)) = some (nI (fd t v s k)) :=
      C_deep h (by omega) (nP_le hs) (10 - t (13 + k)) (by omega) _ (by omega)
    rw [e, bnd_s, gd_nI (by omega) (by decide), nsub (by omega), nI_add, lit 1, nI_add, lit 10, ih (k + 1) _ (by omega)]
    show _ = some (bI (if fd t v s k = 10 then none else sk (fd t v s) (fun k => t (13 + k)) d (k + 1) (a + (fd t v s k - t (13 + k)))))
    by_cases c : fd t v s k = 10
    · rw [if_pos (by rw [c]), if_pos c]; rfl
    · rw [if_neg (fun q => c ((nI_eq (by omega) (by omega)).mp q)), if_neg c]
theorem M_sk {ν : Mem} {t : Nat → Nat} (h : MS ν t) {v s : Nat} (hv : v < 8) (hs : s ≤ 61) (x : Int32) : ∀ d, d < 1000 → ∀ k a y, k + d = t 0 → F_M_strokes_40 ν (nI v) (nI s) x (nI a) y (nI k) = some ((match sk (fd t v s) (fun k => t (13 + k)) d k a with | none => (-1 : Int32) | some r => if x = -1 then nI r else rc (fd t v s) x d k y), ν) := by
  have hn := h.n2
  refine fun d hd => iter_run (fun d (g : Mem → Int32 → Int32 → Int32 → Int32 → Int32 → Int32 → Option (Int32 × Mem)) => ∀ k a y, k + d = t 0 → g ν (nI v) (nI s) x (nI a) y (nI k) = some ((match sk (fd t v s) (fun k => t (13 + k)) d k a with | none => (-1 : Int32) | some r => if x = -1 then nI r else rc (fd t v s) x d k y), ν)) ?_ ?_ NF d (NF_lt hd)
  · intro g k a y hk
    unfold S_M_strokes_40
    rw [gd_t (by decide), show (0 : Int32).toNatClampNeg = 0 from rfl, h.n, if_pos ((nI_leI (by omega) (by omega)).mpr (by omega))]
    show _ = some ((if x = -1 then nI a else y), ν)
    by_cases c : x = -1
    · rw [if_pos c, if_pos c]
    · rw [if_neg c, if_neg c]
  · intro d g ih k a y hk
    have hdep : t (13 + k) ≤ 9 := h.dep (by omega)
    have hf := de_le (hP t (t 1) k) (nP t (t 1) v s (t 3) k) (10 - t (13 + k)) (t (13 + k))
    have hfd : de (hP t (t 1) k) (nP t (t 1) v s (t 3) k) (10 - t (13 + k)) (t (13 + k)) = fd t v s k := rfl
    rw [hfd] at hf
    have step : F_M_strokes_102 g ν (nI v) (nI s) x (nI a) y (nI k) (nI (fd t v s k)) = some ((match sk (fd t v s) (fun k => t (13 + k)) (d + 1) k a with | none => (-1 : Int32) | some r => if x = -1 then nI r else rc (fd t v s) x (d + 1) k y), ν) := by
      unfold F_M_strokes_102
      rw [lit 9, lit 13, nI_add, gd_nI (by omega) (by decide), nclamp (by omega), h.at (13 + k) (by omega), nsub (by omega), nI_add, lit 1, nI_add, ih (k + 1) _ _ (by omega), ih (k + 1) _ _ (by omega)]
      show _ = some ((match (if fd t v s k = 10 then none else sk (fd t v s) (fun k => t (13 + k)) d (k + 1) (a + (fd t v s k - t (13 + k)))) with | none => (-1 : Int32) | some r => if x = -1 then nI r else rc (fd t v s) x d (k + 1) (if nI k = x then nI (fd t v s k) else y)), ν)
      by_cases c : fd t v s k = 10
      · rw [if_neg (fun q => by have := (nI_leI (by omega) (by omega)).mp q; omega), if_pos c]; rfl
      · rw [if_pos ((nI_leI (by omega) (by omega)).mpr (by omega)), if_neg c]
        by_cases c2 : nI k = x
        · rw [if_pos c2, if_pos c2]
        · rw [if_neg c2, if_neg c2]
    unfold S_M_strokes_40
    rw [gd_t (by decide), show (0 : Int32).toNatClampNeg = 0 from rfl, h.n, if_neg (fun q => by have := (nI_leI (by omega) (by omega)).mp q; omega), gd_t (by decide), show (1 : Int32).toNatClampNeg = 1 from rfl, h.at 1 (by decide), hasM _ h.2.st256 _ (by omega), bnd_s, lit 13, nI_add, gd_nI (by omega) (by decide), gd_nI (by omega) (by decide), nclamp (by omega), h.at (13 + k) (by omega), M_pullNow h (by omega) hv hs, bnd_s]
    have e : F_M_depthFor ν (nI k) (nI (t (13 + k))) (nI (if (t 1).testBit k then pull t k v s 0 (t 3) else 0)) = some (nI (fd t v s k), ν) :=
      M_depth h (by omega) (nP_le hs) (by omega)
    rw [e, bnd_s]
    cases hb : (t 1).testBit k with
    | false =>
      have e2 : fd t v s k = t (13 + k) := by
        unfold fd nP
        rw [hb, show 10 - t (13 + k) = (9 - t (13 + k)) + 1 by omega]
        exact de_0 _ _ _
      rw [e2] at step
      rw [if_pos (by decide)]
      exact step
    | true =>
      rw [if_neg (by decide)]
      exact step
theorem ok_strokes {μ ν : Mem} (h : Rel μ ν) (x y z : Int32) : okI Rel (F_T_strokes μ x y z) (F_M_strokes ν x y z) := by
  obtain ⟨t, f1, f2, f3⟩ := h.1
  have hm : MS (stI ν 0 0 0) t := start_ms ⟨f3, f1⟩
  have hn := hm.n2
  unfold F_T_strokes F_M_strokes F_T_strokes_24 F_M_strokes_26
  rcases dGust x y with ⟨v, s, hv, hs, e1, e2, h1, h2⟩ | ⟨h1, h2⟩
  · obtain ⟨m, a1, a2, a3, a4⟩ := C_asItIs f2 f1
    have cs : F_P_strokesFor m (nI v) (nI s) = some (bI (sk (fd t v s) (fun k => t (13 + k)) (t 0) 0 0)) := C_sk a2 hv (by omega) (t 0) (by omega) 0 0 (by omega)
    rw [h1, h2, e1, e2]
    simp only [bnd_s, br0, br1]
    by_cases c : z = -1
    · rw [if_pos c, if_pos c, show F_M_strokes_40 (stI ν 0 0 0) (nI v) (nI s) z 0 0 0 = _ from M_sk hm hv (by omega) z (t 0) (by omega) 0 0 (nI 0) (by omega)]
      unfold F_T_strokes_31
      rw [a1, bnd_s, cs, bnd_s, if_pos c]
      cases sk (fd t v s) (fun k => t (13 + k)) (t 0) 0 0 with
      | none => exact ok_same h (SC.of7 a3) (SM.st0 ν) rfl
      | some r =>
        show okI Rel (if nI r = -1 then some (nI r, m) else some (nI r, m)) (some ((if z = -1 then nI r else _), stI ν 0 0 0))
        rw [if_pos c]
        split
        · exact ok_same h (SC.of7 a3) (SM.st0 ν) rfl
        · exact ok_same h (SC.of7 a3) (SM.st0 ν) rfl
    · rw [if_neg c, if_neg c]
      rcases dPeg f2.sub hm z with ⟨k, hk, e, h3, h4⟩ | ⟨h3, h4⟩
      · have hdep : t (13 + k) ≤ 9 := hm.dep (by omega)
        have hd : F_P_deepEnough m (nI k) (nI (t (13 + k))) (nI (if (t 1).testBit k then pull t k v s 0 (t 3) else 0)) = some (nI (fd t v s k)) := C_deep a2 (by omega) (nP_le (by omega)) (10 - t (13 + k)) (by omega) _ (by omega)
        rw [h3, h4]
        simp only [bnd_s, br0, br1]
        rw [show F_M_strokes_40 (stI ν 0 0 0) (nI v) (nI s) z 0 0 0 = _ from M_sk hm hv (by omega) z (t 0) (by omega) 0 0 (nI 0) (by omega)]
        unfold F_T_strokes_31
        rw [a1, bnd_s, cs, bnd_s, if_neg c, e, gd_nI (by omega) (by decide), C_pullOn a2 (by omega) hv (by omega), bnd_s, nclamp (by omega), show m.1 3 k = nI (t (13 + k)) from a2.1.2.2.1 k (by omega), hd, bnd_s]
        cases hq : sk (fd t v s) (fun k => t (13 + k)) (t 0) 0 0 with
        | none => exact ok_same h (SC.of7 a3) (SM.st0 ν) rfl
        | some r =>
          have hrc := ((rc_at (fd t v s) (j := k) (by omega) (t 0) 0 (nI 0) (by omega)).1 (by omega) (by omega))
          have cz : ¬ nI k = -1 := fun q => c (e.trans q)
          show okI Rel (if nI r = -1 then some (nI r, m) else some (nI (fd t v s k), m)) (some ((if nI k = -1 then nI r else rc (fd t v s) (nI k) (t 0) 0 (nI 0)), stI ν 0 0 0))
          have hr : r ≤ 0 + 10 * t 0 := by
            refine sk_le (t 0) 0 0 r (fun j hj => ?_) hq
            have hdj : t (13 + j) ≤ 9 := hm.dep (by omega)
            have := de_le (hP t (t 1) j) (nP t (t 1) v s (t 3) j) (10 - t (13 + j)) (t (13 + j))
            show de _ _ _ _ ≤ 10
            omega
          rw [if_neg cz, hrc, if_neg (ne_m1 (by omega))]
          exact ok_same h (SC.of7 a3) (SM.st0 ν) rfl
      · rw [h3, h4]
        simp only [bnd_s, br0, br1, T_bad, M_badTen]
        exact ok_bad h (SC.rf μ) (SM.st0 ν) _
  · rw [h1, h2]
    simp only [bnd_s, br0, br1, T_bad, M_badTen]
    exact ok_bad h (SC.rf μ) (SM.st0 ν) _
