/-! Pure part (17): lending, the check. -/
theorem M_need {ν : Mem} {t : Nat → Nat} (h : MS ν t) {k v s : Nat} (hk : k < t 0) (hs : s ≤ 61) (hb : (t 1).testBit k = true) : F_M_depthFor ν (nI k) (nI 0) (nI (pull t k v s 0 (t 3))) = some (nI (nd t v s k), ν) := by
  have e : nP t (t 1) v s (t 3) k = pull t k v s 0 (t 3) := if_pos hb
  rw [← e, M_depth h hk (nP_le hs) (by omega)]
  rfl
theorem M_balI {ν : Mem} {t : Nat → Nat} (h : MS ν t) {v s x : Nat} (hv : v < 8) (hs : s ≤ 61) (hx : x ≤ 10) (K : Mem → Int32 → Int32 → Int32 → Int32 → Int32 → Option (Int32 × Mem)) : ∀ d, d < 1000 → ∀ k (p : Nat × Nat), k + d = t 0 → p.1 ≤ 1000 → F_M_balance_19 K ν (nI v) (nI s) (nI p.1) (nI p.2) (nI x) (nI k) = K ν (nI v) (nI s) (nI (balI (t 1) (nd t v s) x d k p).1) (nI (balI (t 1) (nd t v s) x d k p).2) (nI (x + 1)) := by
  have hn := h.n2
  refine fun d hd => iter_run (fun d (g : Mem → Int32 → Int32 → Int32 → Int32 → Int32 → Int32 → Option (Int32 × Mem)) => ∀ k (p : Nat × Nat), k + d = t 0 → p.1 ≤ 1000 → g ν (nI v) (nI s) (nI p.1) (nI p.2) (nI x) (nI k) = K ν (nI v) (nI s) (nI (balI (t 1) (nd t v s) x d k p).1) (nI (balI (t 1) (nd t v s) x d k p).2) (nI (x + 1))) ?_ ?_ NF d (NF_lt hd)
  · intro g k p hk hp
    unfold S_M_balance_19
    rw [gd_t (by decide), show (0 : Int32).toNatClampNeg = 0 from rfl, h.n, if_pos ((nI_leI (by omega) (by omega)).mpr (by omega)), lit 1, nI_add]
    rfl
  · intro d g ih k p hk hp
    have hfk := nd_le t v s k
    have stay := ih (k + 1) p (by omega) hp
    unfold S_M_balance_19
    rw [gd_t (by decide), show (0 : Int32).toNatClampNeg = 0 from rfl, h.n, if_neg (fun q => by have := (nI_leI (by omega) (by omega)).mp q; omega), gd_t (by decide), show (1 : Int32).toNatClampNeg = 1 from rfl, h.at 1 (by decide), hasM _ h.2.st256 _ (by omega), bnd_s]
    show _ = K ν (nI v) (nI s) (nI (balI (t 1) (nd t v s) x d (k + 1) (if (t 1).testBit k = true ∧ nd t v s k = x ∧ x ≤ p.1 then (p.1 - x, p.2 + 1) else p)).1) (nI (balI (t 1) (nd t v s) x d (k + 1) (if (t 1).testBit k = true ∧ nd t v s k = x ∧ x ≤ p.1 then (p.1 - x, p.2 + 1) else p)).2) (nI (x + 1))
    cases hb : (t 1).testBit k with
    | false =>
      rw [if_pos (by decide), if_neg (fun q => by cases q.1), lit 1, nI_add]
      exact stay
    | true =>
      rw [if_neg (by decide), M_pullNow h (by omega) hv hs, if_pos hb, bnd_s, show (0 : Int32) = nI 0 from lit 0, M_need h (by omega) hs hb, bnd_s, lit 1, nI_add, nI_add]
      show (if nI (nd t v s k) = nI x then (if nI p.1 < nI x then _ else _) else _) = _
      by_cases c2 : nd t v s k = x
      · rw [if_pos (by rw [c2])]
        by_cases c3 : x ≤ p.1
        · rw [if_neg (fun q => by have := (nI_ltI (by omega) (by omega)).mp q; omega), if_pos ⟨rfl, c2, c3⟩, nsub c3]
          exact ih (k + 1) (p.1 - x, p.2 + 1) (by omega) (by show p.1 - x ≤ 1000; omega)
        · rw [if_pos ((nI_ltI (by omega) (by omega)).mpr (by omega)), if_neg (fun q => c3 q.2.2)]
          exact stay
      · rw [if_neg (fun q => c2 ((nI_eq (by omega) (by omega)).mp q)), if_neg (fun q => c2 q.2.1)]
        exact stay
theorem M_balO {ν : Mem} {t : Nat → Nat} (h : MS ν t) {v s : Nat} (hv : v < 8) (hs : s ≤ 61) : ∀ d, d < 1000 → ∀ x (p : Nat × Nat), x + d = 10 → p.1 ≤ 1000 → F_M_balance_9 ν (nI v) (nI s) (nI p.1) (nI p.2) (nI x) = some (nI (balO (t 1) (nd t v s) (t 0) d x p).2, ν) := by
  have hn := h.n2
  refine fun d hd => iter_run (fun d (g : Mem → Int32 → Int32 → Int32 → Int32 → Int32 → Option (Int32 × Mem)) => ∀ x (p : Nat × Nat), x + d = 10 → p.1 ≤ 1000 → g ν (nI v) (nI s) (nI p.1) (nI p.2) (nI x) = some (nI (balO (t 1) (nd t v s) (t 0) d x p).2, ν)) ?_ ?_ NF d (NF_lt hd)
  · intro g x p hx hp
    unfold S_M_balance_9
    rw [lit 10, if_pos ((nI_leI (by omega) (by omega)).mpr (by omega))]
    rfl
  · intro d g ih x p hx hp
    unfold S_M_balance_9
    rw [lit 10, lit 0, if_neg (fun q => by have := (nI_leI (by omega) (by omega)).mp q; omega), M_balI h hv hs (by omega) g (t 0) (by omega) 0 p (by omega) hp]
    exact ih (x + 1) _ (by omega) (Nat.le_trans (balI_le _ _ _ _ _ _) hp)
theorem M_lent {ν : Mem} {t : Nat → Nat} (h : MS ν t) {v s : Nat} (hv : v < 8) (hs : s ≤ 61) (x : Int32) : ∀ d, d < 1000 → ∀ k a b c, k + d = t 0 → c + 9 * d ≤ 1000 → F_M_lent_42 ν (nI v) (nI s) x (nI a) (nI b) (nI c) (nI k) = some ((if x = 0 then nI (fN (wMany t (nd t v s)) d k a) else if x = 1 then nI (fN (wFew t (nd t v s)) d k b) else nI (balO (t 1) (nd t v s) (t 0) 10 0 (fN (wAll t) d k c, 0)).2), ν) := by
  have hn := h.n2
  refine fun d hd => iter_run (fun d (g : Mem → Int32 → Int32 → Int32 → Int32 → Int32 → Int32 → Int32 → Option (Int32 × Mem)) => ∀ k a b c, k + d = t 0 → c + 9 * d ≤ 1000 → g ν (nI v) (nI s) x (nI a) (nI b) (nI c) (nI k) = some ((if x = 0 then nI (fN (wMany t (nd t v s)) d k a) else if x = 1 then nI (fN (wFew t (nd t v s)) d k b) else nI (balO (t 1) (nd t v s) (t 0) 10 0 (fN (wAll t) d k c, 0)).2), ν)) ?_ ?_ NF d (NF_lt hd)
  · intro g k a b c hk hc
    unfold S_M_lent_42
    rw [gd_t (by decide), show (0 : Int32).toNatClampNeg = 0 from rfl, h.n, if_pos ((nI_leI (by omega) (by omega)).mpr (by omega))]
    by_cases c0 : x = 0
    · rw [if_pos c0, if_pos c0]; rfl
    · rw [if_neg c0, if_neg c0]
      by_cases c1 : x = 1
      · rw [if_pos c1, if_pos c1]; rfl
      · rw [if_neg c1, if_neg c1]
        unfold F_M_balance
        rw [show F_M_balance_9 ν (nI v) (nI s) (nI c) 0 0 = _ from M_balO h hv hs 10 (by decide) 0 (c, 0) rfl (by show c ≤ 1000; omega)]
        rfl
  · intro d g ih k a b c hk hc
    have hfk := nd_le t v s k
    have hdep : t (13 + k) ≤ 9 := h.dep (by omega)
    unfold S_M_lent_42
    rw [gd_t (by decide), show (0 : Int32).toNatClampNeg = 0 from rfl, h.n, if_neg (fun q => by have := (nI_leI (by omega) (by omega)).mp q; omega), gd_t (by decide), show (1 : Int32).toNatClampNeg = 1 from rfl, h.at 1 (by decide), hasM _ h.2.st256 _ (by omega), bnd_s]
    show _ = some ((if x = 0 then nI (fN (wMany t (nd t v s)) d (k + 1) (a + wMany t (nd t v s) k)) else if x = 1 then nI (fN (wFew t (nd t v s)) d (k + 1) (b + wFew t (nd t v s) k)) else nI (balO (t 1) (nd t v s) (t 0) 10 0 (fN (wAll t) d (k + 1) (c + wAll t k), 0)).2), ν)
    unfold wMany wFew wAll
    cases hb : (t 1).testBit k with
    | false =>
      rw [if_pos (by decide), lit 1, nI_add, ih (k + 1) a b c (by omega) (by omega)]
      rfl
    | true =>
      rw [if_neg (by decide), M_pullNow h (by omega) hv hs, if_pos hb, bnd_s, show (0 : Int32) = nI 0 from lit 0, M_need h (by omega) hs hb, bnd_s]
      show (gd (inb (13 + nI k) 47) (if ν.1 2 (13 + nI k).toNatClampNeg - nI (nd t v s k) ≤ nI 0 then F_M_lent_112 g ν (nI v) (nI s) x (nI b) (nI c) (nI k) (ν.1 2 (13 + nI k).toNatClampNeg - nI (nd t v s k)) (nI 0) (nI a) else F_M_lent_112 g ν (nI v) (nI s) x (nI b) (nI c) (nI k) (ν.1 2 (13 + nI k).toNatClampNeg - nI (nd t v s k)) (ν.1 2 (13 + nI k).toNatClampNeg - nI (nd t v s k)) (nI a))) = _
      rw [show (13 : Int32) = nI 13 from lit 13, nI_add, gd_nI (by omega) (by decide), nclamp (by omega), h.at (13 + k) (by omega)]
      have d3 := dif3 _ (show t (13 + k) < 10 by omega) _ (show nd t v s k < 11 by omega)
      have d4 := dif4 _ (show t (13 + k) < 10 by omega) _ (show nd t v s k < 11 by omega)
      have e : ∀ z, F_M_lent_112 g ν (nI v) (nI s) x (nI b) (nI c) (nI k) (nI (t (13 + k)) - nI (nd t v s k)) z (nI a) = g ν (nI v) (nI s) x (nI a + z) (nI (b + (nd t v s k - t (13 + k)))) (nI (c + t (13 + k))) (nI (k + 1)) := by
        intro z
        unfold F_M_lent_112 F_M_lent_129
        rw [show (13 : Int32) = nI 13 from lit 13, nI_add, gd_nI (by omega) (by decide), gd_nI (by omega) (by decide), nclamp (by omega), h.at (13 + k) (by omega), nI_add, show (1 : Int32) = nI 1 from lit 1, nI_add, show (0 : Int32) = nI 0 from lit 0, ← nI_add b, ← d4]
        by_cases q : nI 0 ≤ nI (t (13 + k)) - nI (nd t v s k)
        · rw [if_pos q, if_pos q]
        · rw [if_neg q, if_neg q]
      rw [e, e]
      have e5 := ih (k + 1) (a + (t (13 + k) - nd t v s k)) (b + (nd t v s k - t (13 + k))) (c + t (13 + k)) (by omega) (by omega)
      rw [← nI_add a, ← d3] at e5
      have fin : (if nI (t (13 + k)) - nI (nd t v s k) ≤ nI 0 then g ν (nI v) (nI s) x (nI a + nI 0) (nI (b + (nd t v s k - t (13 + k)))) (nI (c + t (13 + k))) (nI (k + 1)) else g ν (nI v) (nI s) x (nI a + (nI (t (13 + k)) - nI (nd t v s k))) (nI (b + (nd t v s k - t (13 + k)))) (nI (c + t (13 + k))) (nI (k + 1))) = g ν (nI v) (nI s) x (nI a + (if nI (t (13 + k)) - nI (nd t v s k) ≤ nI 0 then nI 0 else nI (t (13 + k)) - nI (nd t v s k))) (nI (b + (nd t v s k - t (13 + k)))) (nI (c + t (13 + k))) (nI (k + 1)) := by
        by_cases q : nI (t (13 + k)) - nI (nd t v s k) ≤ nI 0
        · rw [if_pos q, if_pos q]
        · rw [if_neg q, if_neg q]
      rw [fin, e5]
      rfl
theorem fN_le (w : Nat → Nat) (B n : Nat) (hw : ∀ k, k < n → w k ≤ B) : ∀ d k a, k + d ≤ n → fN w d k a ≤ a + B * d := by
  intro d
  induction d with
  | zero => intro k a _; exact Nat.le_refl _
  | succ d ih =>
    intro k a hk
    have h1 := ih (k + 1) (a + w k) (by omega)
    have h2 := hw k (by omega)
    show fN w d (k + 1) (a + w k) ≤ _
    rw [Nat.mul_succ]
    omega
theorem ok_lent {μ ν : Mem} (h : Rel μ ν) (x y z : Int32) : okI Rel (F_T_lent μ x y z) (F_M_lent ν x y z) := by
  obtain ⟨t, f1, f2, f3⟩ := h.1
  have hm : MS (stI ν 0 0 0) t := start_ms ⟨f3, f1⟩
  have hn := hm.n2
  unfold F_T_lent F_M_lent F_T_lent_17 F_M_lent_25
  rcases dGust x y with ⟨v, s, hv, hs, e1, e2, h1, h2⟩ | ⟨h1, h2⟩
  · rcases dich z 0 2 (by decide) (by decide) with ⟨j, _, hj, e3, h3, h4⟩ | ⟨h3, h4⟩
    · obtain ⟨m, a1, a2, a3, a4⟩ := C_asItIs f2 f1
      obtain ⟨m1, b1, b2, b3⟩ := C_see (t := t) (v := v) (s := s) hv (by omega) hn (t 0) (by omega) m 0 a2 (fun j q => absurd q (by omega)) (by omega)
      have hsc : SC μ m1 := (SC.of7 a3).tr (fun k q => b3 k (by omega))
      have hf : ∀ k, nd t v s k ≤ 10 := nd_le t v s
      have hall : fN (wAll t) (t 0) 0 0 ≤ 0 + 9 * t 0 := by
        refine fN_le _ 9 (t 0) (fun k q => ?_) (t 0) 0 0 (by omega)
        unfold wAll
        split
        · exact hm.dep (by omega)
        · omega
      rw [h1, h2, e1, e2, show F_T_within z 0 2 = some (nI 1) from h3, show F_M_in z.toInt64 0 2 = some (nI 1) from h4, a1]
      simp only [bnd_s, br0, br1]
      rw [show F_P_seeNeeds m (nI v) (nI s) = some m1 from b1, bnd_s, show F_M_lent_42 (stI ν 0 0 0) (nI v) (nI s) z 0 0 0 0 = _ from M_lent hm hv (by omega) z (t 0) (by omega) 0 0 0 0 (by omega) (by omega)]
      unfold F_P_inchesTooMany F_P_inchesTooFew F_P_balance F_P_inchesOfAll
      rw [show F_P_inchesTooMany_4 m1 0 0 = _ from C_many b2 hf (t 0) (by omega) 0 0 (by omega), show F_P_inchesTooFew_4 m1 0 0 = _ from C_few b2 hf (t 0) (by omega) 0 0 (by omega), show F_P_inchesOfAll_4 m1 0 0 = _ from C_all b2 (t 0) (by omega) 0 0 (by omega), bnd_s, bnd_s, bnd_s, show F_P_balance_9 m1 (nI (fN (wAll t) (t 0) 0 0)) 0 0 = _ from C_balO b2 hf 10 (by decide) 0 (fN (wAll t) (t 0) 0 0, 0) rfl (by show fN _ _ _ _ ≤ 1000; omega)]
      by_cases c0 : z = 0
      · rw [if_pos c0, if_pos c0]; exact ok_same h hsc (SM.st0 ν) rfl
      · rw [if_neg c0, if_neg c0]
        by_cases c1 : z = 1
        · rw [if_pos c1, if_pos c1]; exact ok_same h hsc (SM.st0 ν) rfl
        · rw [if_neg c1, if_neg c1]; exact ok_same h hsc (SM.st0 ν) rfl
    · rw [h1, h2, show F_T_within z 0 2 = some (nI 0) from h3, show F_M_in z.toInt64 0 2 = some (nI 0) from h4]
      simp only [bnd_s, br0, br1, T_bad, M_badTen]
      exact ok_bad h (SC.rf μ) (SM.st0 ν) _
  · rw [h1, h2]
    simp only [bnd_s, br0, br1, T_bad, M_badTen]
    exact ok_bad h (SC.rf μ) (SM.st0 ν) _
