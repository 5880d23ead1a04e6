/-! Pure part (31): the class doubles. -/
theorem C_in23 {t : Nat → Nat} {m a : Nat} (hm : m = 1 ∨ m = 2) (ha : a < 8) (K : Mem → Int32 → Int32 → Int32 → Int32 → Option (Int32 × Mem)) : ∀ d, d < 1000 → ∀ (μ : Mem) (db b : Nat) (o : Option (Nat × Nat)), GS μ t (t 1) (t 3) 0 db → b + d = t 0 → ∃ μ1 db1, F_P_bestToDouble_23 K μ (nI m) (sB o) (ms t o) (nI a) (nI b) = K μ1 (nI m) (sB (ti t m a d b o)) (ms t (ti t m a d b o)) (nI (a + 1)) ∧ GS μ1 t (t 1) (t 3) 0 db1 ∧ SC μ μ1 := by
  refine fun d hd => iter_run (fun d (g : Mem → Int32 → Int32 → Int32 → Int32 → Int32 → Option (Int32 × Mem)) => ∀ (μ : Mem) (db b : Nat) (o : Option (Nat × Nat)), GS μ t (t 1) (t 3) 0 db → b + d = t 0 → ∃ μ1 db1, g μ (nI m) (sB o) (ms t o) (nI a) (nI b) = K μ1 (nI m) (sB (ti t m a d b o)) (ms t (ti t m a d b o)) (nI (a + 1)) ∧ GS μ1 t (t 1) (t 3) 0 db1 ∧ SC μ μ1) ?_ ?_ NF d (NF_lt hd)
  · intro g μ db b o h hb
    have hn := h.n2
    unfold S_P_bestToDouble_23
    rw [h.pegs, if_pos ((nI_leI (by omega) (by omega)).mpr (by omega)), nI_1]
    exact ⟨μ, db, rfl, h, SC.rf μ⟩
  · intro d g ih μ db b o h hb
    have hn := h.n2
    have h256 := h.st256
    have et : ti t m a (d + 1) b o = ti t m a d (b + 1) (up t m o a b) := rfl
    have hdu := du_lt a ha b (by omega)
    have no : al m (t 1) a b = false → up t m o a b = o := fun q => by unfold up; rw [q]; rfl
    unfold S_P_bestToDouble_23
    rw [h.pegs, if_neg (fun q => by have := (nI_leI (by omega) (by omega)).mp q; omega), duI a ha b (by omega), pcT _ hdu, bnd_s, et, h.stn, nI_1]
    have hpc : (nI (pc (du a b)) = nI m) ↔ ((a = b) ↔ m = 1) := by
      rw [nI_eq (by have := pc_le _ hdu; omega) (by omega), du_pc a ha b (by omega)]
      by_cases c : a = b
      · rw [if_pos c]; omega
      · rw [if_neg c]; omega
    have hsub : (nI (du a b) &&& (nI (t 1) ^^^ -1) = 0) ↔ ((t 1).testBit a && (t 1).testBit b) = true := by
      rw [← du_sub a ha b (by omega) _ h256]
      exact decide_eq_true_iff.symm
    by_cases c1 : nI (pc (du a b)) = nI m
    · rw [if_pos c1]
      have q1 : (decide (a = b) == decide (m = 1)) = true := by
        have := hpc.mp c1
        by_cases e : a = b
        · rw [decide_eq_true e, decide_eq_true (this.mp e)]; rfl
        · rw [decide_eq_false e, decide_eq_false (fun q => e (this.mpr q))]; rfl
      by_cases c2 : nI (du a b) &&& (nI (t 1) ^^^ -1) = 0
      · rw [if_pos c2]
        have hA : al m (t 1) a b = true := by
          unfold al; rw [hsub.mp c2, q1]; rfl
        have hG : GS (stI μ 7 7 (nI (du a b))) t (t 1) (t 3) 0 (du a b) := h.doub hdu
        have hS : SC μ (stI μ 7 7 (nI (du a b))) := SC.st (by omega)
        rw [show F_G_leastBorne (stI μ 7 7 (nI (du a b))) = some (nI (bw t a b)) from C_least (fun v hv => C_borneBy hG hv) (fun v => bv_le _ _ _ _ _), bnd_s]
        unfold F_P_bestToDouble_100 up
        rw [if_pos hA, nI_1]
        by_cases c3 : nI (bw t a b) ≤ ms t o
        · rw [if_pos c3, if_pos c3, if_neg (Int32.not_lt.mpr c3)]
          obtain ⟨μ1, db1, e1, e2, e3⟩ := ih _ (du a b) (b + 1) o hG (by omega)
          exact ⟨μ1, db1, e1, e2, hS.tr e3⟩
        · rw [if_neg c3, if_neg c3, if_pos (Int32.not_le.mp c3)]
          obtain ⟨μ1, db1, e1, e2, e3⟩ := ih _ (du a b) (b + 1) (some (a, b)) hG (by omega)
          exact ⟨μ1, db1, e1, e2, hS.tr e3⟩
      · rw [if_neg c2, no (by unfold al; cases e : ((t 1).testBit a && (t 1).testBit b) with
          | true => exact absurd (hsub.mpr e) c2
          | false => rfl)]
        exact ih μ db (b + 1) o h (by omega)
    · rw [if_neg c1, no (by
        unfold al
        have q1 : (decide (a = b) == decide (m = 1)) = false := by
          by_cases e : a = b
          · rw [decide_eq_true e]
            by_cases e2 : m = 1
            · exact absurd (hpc.mpr ⟨fun _ => e2, fun _ => e⟩) c1
            · rw [decide_eq_false e2]; rfl
          · rw [decide_eq_false e]
            by_cases e2 : m = 1
            · rw [decide_eq_true e2]; rfl
            · exact absurd (hpc.mpr ⟨fun q => absurd q e, fun q => absurd q e2⟩) c1
        rw [q1, Bool.and_false])]
      exact ih μ db (b + 1) o h (by omega)
theorem C_in7 {t : Nat → Nat} {m : Nat} (hm : m = 1 ∨ m = 2) : ∀ d, d < 1000 → ∀ (μ : Mem) (db a : Nat) (o : Option (Nat × Nat)), GS μ t (t 1) (t 3) 0 db → a + d = t 0 → ∃ μ1 db1, F_P_bestToDouble_7 μ (nI m) (sB o) (ms t o) (nI a) = some (sB (to' t m d a o), μ1) ∧ GS μ1 t (t 1) (t 3) 0 db1 ∧ SC μ μ1 := by
  refine fun d hd => iter_run (fun d (g : Mem → Int32 → Int32 → Int32 → Int32 → Option (Int32 × Mem)) => ∀ (μ : Mem) (db a : Nat) (o : Option (Nat × Nat)), GS μ t (t 1) (t 3) 0 db → a + d = t 0 → ∃ μ1 db1, g μ (nI m) (sB o) (ms t o) (nI a) = some (sB (to' t m d a o), μ1) ∧ GS μ1 t (t 1) (t 3) 0 db1 ∧ SC μ μ1) ?_ ?_ NF d (NF_lt hd)
  · intro g μ db a o h ha
    have hn := h.n2
    unfold S_P_bestToDouble_7
    rw [h.pegs, if_pos ((nI_leI (by omega) (by omega)).mpr (by omega))]
    exact ⟨μ, db, rfl, h, SC.rf μ⟩
  · intro d g ih μ db a o h ha
    have hn := h.n2
    unfold S_P_bestToDouble_7
    rw [h.pegs, if_neg (fun q => by have := (nI_leI (by omega) (by omega)).mp q; omega)]
    obtain ⟨μ1, db1, e1, e2, e3⟩ := C_in23 hm (show a < 8 by omega) g (t 0 - a) (by omega) μ db a o h (by omega)
    obtain ⟨μ2, db2, g1, g2, g3⟩ := ih μ1 db1 (a + 1) (ti t m a (t 0 - a) a o) e2 (by omega)
    rw [e1]
    exact ⟨μ2, db2, g1, g2, e3.tr g3⟩
theorem C_best {μ : Mem} {t : Nat → Nat} {m db : Nat} (hm : m = 1 ∨ m = 2) (h : GS μ t (t 1) (t 3) 0 db) : ∃ μ1 db1, F_P_bestToDouble μ (nI m) = some (sB (to' t m (t 0) 0 none), μ1) ∧ GS μ1 t (t 1) (t 3) 0 db1 ∧ SC μ μ1 :=
  C_in7 hm (t 0) (by have := h.n2; omega) μ db 0 none h (by omega)
