/-! Pure part (33): twofold. -/
theorem M_103 {ν : Mem} {t : Nat → Nat} {m a : Nat} (h : MS ν t) (hm : m = 1 ∨ m = 2) (ha : a < t 0) (x2 : Int32) (K : Mem → Int32 → Int32 → Int32 → Int32 → Int32 → Int32 → Option (Int32 × Mem)) : ∀ d, d < 1000 → ∀ (b : Nat) (o : Option (Nat × Nat)), b + d = (if m = 1 then a + 1 else t 0) → (if m = 1 then a ≤ b else a < b) → F_M_twofold_103 K ν (nI m) x2 (ms t o) (pa o) (pb o) (nI a) (nI b) = K ν (nI m) x2 (ms t (ti t m a d b o)) (pa (ti t m a d b o)) (pb (ti t m a d b o)) (nI (a + 1)) := by
  have hn := h.n2
  have e1 : nI m = 1 ↔ m = 1 := nI_eq (b := 1) (by omega) (by omega)
  have key : ∀ (g : Mem → Int32 → Int32 → Int32 → Int32 → Int32 → Int32 → Int32 → Option (Int32 × Mem)) (b : Nat) (o : Option (Nat × Nat)), S_M_twofold_103 K g ν (nI m) x2 (ms t o) (pa o) (pb o) (nI a) (nI b) = F_M_twofold_123 K g ν (nI m) x2 (ms t o) (pa o) (pb o) (nI a) (nI b) (nI (if m = 1 then a + 1 else t 0)) (nI b) := by
    intro g b o
    unfold S_M_twofold_103
    by_cases c : m = 1
    · rw [if_pos (e1.mpr c), if_pos c, nI_1]
    · rw [if_neg (fun q => c (e1.mp q)), if_neg c, gd_t (by decide), show (0 : Int32).toNatClampNeg = 0 from rfl, h.n]
  refine fun d hd => iter_run (fun d (g : Mem → Int32 → Int32 → Int32 → Int32 → Int32 → Int32 → Int32 → Option (Int32 × Mem)) => ∀ (b : Nat) (o : Option (Nat × Nat)), b + d = (if m = 1 then a + 1 else t 0) → (if m = 1 then a ≤ b else a < b) → g ν (nI m) x2 (ms t o) (pa o) (pb o) (nI a) (nI b) = K ν (nI m) x2 (ms t (ti t m a d b o)) (pa (ti t m a d b o)) (pb (ti t m a d b o)) (nI (a + 1))) ?_ ?_ NF d (NF_lt hd)
  · intro g b o hb _
    rw [key]
    unfold F_M_twofold_123
    rw [← hb, if_pos ((nI_leI (by split at hb <;> omega) (by split at hb <;> omega)).mpr (by omega)), nI_1]
    rfl
  · intro d g ih b o hb hab
    rw [key, M_123 h (by omega) x2 K g (show b < 8 by split at hb <;> omega) (by split <;> omega) (by omega) (by
      rcases hm with q | q
      · left; rw [if_pos q] at hb hab; exact ⟨q, by omega⟩
      · right; rw [if_neg (by omega)] at hab; exact ⟨q, hab⟩)]
    exact ih (b + 1) (up t m o a b) (by omega) (by split <;> split at hab <;> omega)
def res (t : Nat → Nat) (o : Option (Nat × Nat)) (x2 : Int32) : Int32 := if x2 = -1 then ms t o else if x2 = 0 then pa o else pb o
theorem M_76 {ν : Mem} {t : Nat → Nat} {m : Nat} (h : MS ν t) (hm : m = 1 ∨ m = 2) (x2 : Int32) : ∀ d, d < 1000 → ∀ (a : Nat) (o : Option (Nat × Nat)), a + d = t 0 → F_M_twofold_76 ν (nI m) x2 (ms t o) (pa o) (pb o) (nI a) = some (res t (to' t m d a o) x2, ν) := by
  have hn := h.n2
  have e1 : nI m = 1 ↔ m = 1 := nI_eq (b := 1) (by omega) (by omega)
  refine fun d hd => iter_run (fun d (g : Mem → Int32 → Int32 → Int32 → Int32 → Int32 → Int32 → Option (Int32 × Mem)) => ∀ (a : Nat) (o : Option (Nat × Nat)), a + d = t 0 → g ν (nI m) x2 (ms t o) (pa o) (pb o) (nI a) = some (res t (to' t m d a o) x2, ν)) ?_ ?_ NF d (NF_lt hd)
  · intro g a o ha
    unfold S_M_twofold_76
    rw [gd_t (by decide), show (0 : Int32).toNatClampNeg = 0 from rfl, h.n, if_pos ((nI_leI (by omega) (by omega)).mpr (by omega))]
    show _ = some ((if x2 = -1 then ms t o else if x2 = 0 then pa o else pb o), ν)
    by_cases c : x2 = -1
    · rw [if_pos c, if_pos c]
    · rw [if_neg c, if_neg c]
      by_cases c2 : x2 = 0
      · rw [if_pos c2, if_pos c2]
      · rw [if_neg c2, if_neg c2]
  · intro d g ih a o ha
    have et : to' t m (d + 1) a o = to' t m d (a + 1) (ti t m a (t 0 - a) a o) := rfl
    unfold S_M_twofold_76
    rw [gd_t (by decide), show (0 : Int32).toNatClampNeg = 0 from rfl, h.n, if_neg (fun q => by have := (nI_leI (by omega) (by omega)).mp q; omega), nI_1, et]
    have es : t 0 - a = d + 1 := by omega
    have e2 : ti t m a (d + 1) a o = ti t m a d (a + 1) (up t m o a a) := rfl
    rcases hm with q | q
    · rw [if_pos (e1.mpr q), M_103 h (Or.inl q) (by omega) x2 g 1 (by omega) a o (by rw [if_pos q]) (by rw [if_pos q]; exact Nat.le_refl _), ih (a + 1) _ (by omega), es, e2, ti_no d (a + 1) _ (fun j hj => by
        unfold al
        rw [decide_eq_false (show ¬ a = j by omega), decide_eq_true q]
        exact Bool.and_false _)]
      rfl
    · have eu : up t m o a a = o := by
        unfold up al
        rw [decide_eq_true (show a = a from rfl), decide_eq_false (show ¬ m = 1 by omega), show (true == false) = false from rfl, Bool.and_false]
        rfl
      rw [if_neg (fun p => by have := e1.mp p; omega), M_103 h (Or.inr q) (by omega) x2 g d (by omega) (a + 1) o (by rw [if_neg (by omega)]; omega) (by rw [if_neg (by omega)]; omega), ih (a + 1) _ (by omega), es, e2, eu]
theorem two_some {t : Nat → Nat} {m : Nat} (w : Wf t) (hm : m = 1 ∨ m = 2) (h : m ≤ pc (t 1)) : to' t m (t 0) 0 none ≠ none := by
  have h256 := w.st256
  have hlt : ∀ a, (t 1).testBit a = true → a < t 0 := by
    intro a q
    refine Nat.lt_of_not_le (fun p => ?_)
    have : (t 1).testBit a = false := Nat.testBit_lt_two_pow (Nat.lt_of_lt_of_le w.2.2.1 (Nat.pow_le_pow_right (by decide) p))
    rw [q] at this; cases this
  refine to_some _ _ _ (Or.inr ?_)
  rcases hm with q | q
  · obtain ⟨a, _, e⟩ := pc_1 _ h256 (by omega)
    refine ⟨a, a, by omega, by have := hlt a e; omega, Nat.le_refl _, hlt a e, ?_⟩
    unfold al
    rw [e, decide_eq_true (show a = a from rfl), decide_eq_true q]; rfl
  · obtain ⟨a, _, b, _, e1, e2, e3⟩ := pc_2 _ h256 (by omega)
    refine ⟨a, b, by omega, by have := hlt a e2; omega, by omega, hlt b e3, ?_⟩
    unfold al
    rw [e2, e3, decide_eq_false (show ¬ a = b by omega), decide_eq_false (show ¬ m = 1 by omega)]; rfl
theorem M_two {ν : Mem} {t : Nat → Nat} (h : MS ν t) {k : Nat} (hk : k = 1 ∨ k = 2) (x2 : Int32) (c : -1 ≤ x2) : F_M_twofold ν (nI k) x2 = some ((if k ≤ pc (t 1) then (if x2 < nI k then res t (to' t k (t 0) 0 none) x2 else -5) else -1), stI ν 0 0 0) := by
  have hm : MS (stI ν 0 0 0) t := start_ms h
  have hn := h.n2
  have h256 := h.2.st256
  have h8 := pc_le _ h256
  have e1 : (1 : Int32).toNatClampNeg = 1 := rfl
  have eIn : F_M_in (nI k).toInt64 1 2 = some (nI 1) := by
    rcases hk with rfl | rfl <;> rfl
  unfold F_M_twofold F_M_twofold_22 F_M_twofold_45
  rw [eIn, bnd_s, br1, if_pos c, gd_t (by decide), e1, h.at 1 (by decide), pcM _ h256, bnd_s]
  by_cases c1 : k ≤ pc (t 1)
  · have p1 : ¬ nI (pc (t 1)) < nI k := fun q => by have := (nI_ltI (by omega) (by omega)).mp q; omega
    have p2 : nI k ≤ nI (pc (t 1)) := (nI_leI (by omega) (by omega)).mpr c1
    rw [if_neg p1, if_pos c1]
    by_cases c2 : x2 < nI k
    · rw [if_pos c2, if_pos c2]
      exact M_76 hm hk x2 (t 0) (by omega) 0 none (by omega)
    · rw [if_neg c2, if_neg c2, gd_t (by decide), hm.at 1 (by decide), pcM _ h256, bnd_s, if_pos p2]
  · have p1 : nI (pc (t 1)) < nI k := (nI_ltI (by omega) (by omega)).mpr (by omega)
    have p2 : ¬ nI k ≤ nI (pc (t 1)) := fun q => by have := (nI_leI (by omega) (by omega)).mp q; omega
    rw [if_pos p1, if_neg c1, gd_t (by decide), hm.at 1 (by decide), pcM _ h256, bnd_s, if_neg p2]
theorem C_two {μ : Mem} {t : Nat → Nat} (w : Wf t) (h : CF μ 1 t) {k : Nat} (hk : k = 1 ∨ k = 2) (x2 : Int32) (c : -1 ≤ x2) : ∃ m, F_T_twofold μ (nI k) x2 = some ((if k ≤ pc (t 1) then (if x2 < nI k then res t (to' t k (t 0) 0 none) x2 else -5) else -1), m) ∧ SC μ m := by
  obtain ⟨m, a1, a2, a3, a4⟩ := C_asItIs h w
  have hn := GS.n2 a2
  have h256 := w.st256
  have h8 := pc_le _ h256
  have eIn : F_T_within (nI k) 1 2 = some (nI 1) := by
    rcases hk with rfl | rfl <;> rfl
  unfold F_T_twofold F_T_twofold_14
  rw [eIn, bnd_s, br1, if_pos c, show μ.1 1 3 = nI (t 1) from h.1.2.2.2.1, pcT _ h256, bnd_s]
  by_cases c1 : k ≤ pc (t 1)
  · have p2 : nI k ≤ nI (pc (t 1)) := (nI_leI (by omega) (by omega)).mpr c1
    rw [if_pos p2, if_pos c1]
    by_cases c2 : x2 < nI k
    · rw [if_pos c2, if_pos c2, a1, bnd_s]
      obtain ⟨m1, db1, d1, d2, d3⟩ := C_best hk a2
      have hsc : SC μ m1 := (SC.of7 a3).tr d3
      have hO : Ok t k (to' t k (t 0) 0 none) := to_ok _ _ _ (fun a b q => by cases q) (by omega)
      have hS := two_some w hk c1
      rw [d1, bnd_s]
      revert hO hS
      generalize to' t k (t 0) 0 none = o
      intro hO hS
      cases o with
      | none => exact absurd rfl hS
      | some p =>
        obtain ⟨a, b⟩ := p
        obtain ⟨o1, o2, o3⟩ := hO a b rfl
        have hdu := du_lt a (by omega) b (by omega)
        have hG : GS (stI m1 7 7 (nI (du a b))) t (t 1) (t 3) 0 (du a b) := d2.doub hdu
        have hS2 : SC μ (stI m1 7 7 (nI (du a b))) := hsc.tr (SC.st (by omega))
        have eL : F_G_leastBorne (stI m1 7 7 (nI (du a b))) = some (nI (bw t a b)) := C_least (fun v hv => C_borneBy hG hv) (fun v => bv_le _ _ _ _ _)
        refine ⟨stI m1 7 7 (nI (du a b)), ?_, hS2⟩
        show (if x2 = -1 then (bnd (F_G_leastBorne (stI m1 7 7 (nI (du a b)))) (fun r6 => some (r6, stI m1 7 7 (nI (du a b))))) else (bnd (F_P_memberOf (nI (du a b)) x2) (fun r5 => some (r5, stI m1 7 7 (nI (du a b)))))) = some ((if x2 = -1 then nI (bw t a b) else if x2 = 0 then nI a else nI b), stI m1 7 7 (nI (du a b)))
        rcases ge_m1 x2 c with e | ⟨j, hj, e⟩
        · rw [if_pos e, if_pos e, eL, bnd_s]
        · have hjk : j < k := by rw [e] at c2; exact (nI_ltI (by omega) (by omega)).mp c2
          rw [e, if_neg (ne_m1 hj), if_neg (ne_m1 hj)]
          rcases (show j = 0 ∨ j = 1 by omega) with rfl | rfl
          · rw [if_pos (show nI 0 = 0 from rfl), show F_P_memberOf (nI (du a b)) (nI 0) = _ from du_0 a (by omega) b (by omega) o1, bnd_s]
          · have hab : a < b := by
              have hk2 : k = 2 := by omega
              refine Nat.lt_of_le_of_ne o1 (fun q => ?_)
              unfold al at o3
              rw [decide_eq_true q, decide_eq_false (show ¬ k = 1 by omega), show (true == false) = false from rfl, Bool.and_false] at o3
              cases o3
            rw [if_neg (show ¬ nI 1 = 0 by decide), show F_P_memberOf (nI (du a b)) (nI 1) = _ from du_1 a (by omega) b (by omega) hab, bnd_s]
    · rw [if_neg c2, if_neg c2]
      exact ⟨μ, rfl, SC.rf μ⟩
  · have p2 : ¬ nI k ≤ nI (pc (t 1)) := fun q => by have := (nI_leI (by omega) (by omega)).mp q; omega
    rw [if_neg p2, if_neg c1]
    exact ⟨μ, rfl, SC.rf μ⟩
theorem ok_twofold {μ ν : Mem} (h : Rel μ ν) (x1 x2 : Int32) : okI Rel (F_T_twofold μ x1 x2) (F_M_twofold ν x1 x2) := by
  obtain ⟨t, f1, f2, f3⟩ := h.1
  rcases dich x1 1 2 (by decide) (by decide) with ⟨k, hk1, hk2, ek, g1, g2⟩ | ⟨g1, g2⟩
  · by_cases c : -1 ≤ x2
    · obtain ⟨m, e1, e2⟩ := C_two f1 f2 (show k = 1 ∨ k = 2 by omega) x2 c
      rw [ek, e1, M_two ⟨f3, f1⟩ (show k = 1 ∨ k = 2 by omega) x2 c]
      exact ok_same h e2 (SM.st0 ν) rfl
    · unfold F_T_twofold F_M_twofold F_T_twofold_14 F_M_twofold_22
      rw [show F_T_within x1 1 2 = some (nI 1) from g1, show F_M_in x1.toInt64 1 2 = some (nI 1) from g2, bnd_s, bnd_s, br1, br1, if_neg c, if_neg c, T_bad, M_badTen]
      exact ok_bad h (SC.rf μ) (SM.st0 ν) _
  · unfold F_T_twofold F_M_twofold F_T_twofold_14 F_M_twofold_22
    rw [show F_T_within x1 1 2 = some (nI 0) from g1, show F_M_in x1.toInt64 1 2 = some (nI 0) from g2, bnd_s, bnd_s, br0, br0, T_bad, M_badTen]
    exact ok_bad h (SC.rf μ) (SM.st0 ν) _
