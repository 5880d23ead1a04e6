/-! Pure part (45): read. -/
theorem tellS_wf {t t' : Nat → Nat} {w : Nat} {v : Nat → Nat} (h : Wf t) (e : tellS t w v = some t') : Wf t' := by
  unfold tellS at e
  by_cases c4 : w = 4
  · rw [if_pos c4] at e
    by_cases d : 2 ≤ v 0 ∧ v 0 ≤ 8
    · rw [if_pos d] at e
      cases e; exact pitch_wf d.1 d.2
    · rw [if_neg d] at e; cases e
  · rw [if_neg c4] at e
    by_cases c5 : w = 5
    · rw [if_pos c5] at e
      by_cases d : v 0 < t 0 ∧ v 1 ≤ 5 ∧ v 2 ≤ 9 ∧ v 3 ≤ 9
      · rw [if_pos d] at e
        cases e; exact wf_driven h (by have := h.2.1; omega) d.2.1 d.2.2.1 d.2.2.2
      · rw [if_neg d] at e; cases e
    · rw [if_neg c5] at e
      by_cases c6 : w = 6
      · rw [if_pos c6] at e
        by_cases d : v 0 ≤ 9
        · rw [if_pos d] at e
          cases e; exact h.set (by omega)
        · rw [if_neg d] at e; cases e
      · rw [if_neg c6] at e
        by_cases c7 : w = 7
        · rw [if_pos c7] at e
          by_cases d : v 0 < 8 ∧ (t 3).testBit (v 0) = false
          · rw [if_pos d] at e
            cases e; exact h.set (Or.inr (Or.inr (Or.inl ⟨rfl, tog_lt _ h.2.2.2.2.1 _ d.1⟩)))
          · rw [if_neg d] at e; cases e
        · rw [if_neg c7] at e
          by_cases c8 : w = 8
          · rw [if_pos c8] at e
            by_cases d : v 0 < 8 ∧ v 1 ≤ 20
            · rw [if_pos d] at e
              cases e; exact h.set (by omega)
            · rw [if_neg d] at e; cases e
          · rw [if_neg c8] at e
            by_cases d : v 0 < t 0 ∧ (t 1).testBit (v 0) = true
            · rw [if_pos d] at e
              cases e; exact h.set (Or.inl ⟨rfl, tog_lt2 _ (by have := h.2.1; omega) _ h.2.2.1 _ d.1⟩)
            · rw [if_neg d] at e; cases e
theorem fo_none {it : Nat → Nat × (Nat → Nat)} {t0 : Nat → Nat} {m : Nat} (h : fo it t0 m = none) : ∀ n, m ≤ n → fo it t0 n = none := by
  intro n
  induction n with
  | zero => intro q; rw [show (0 : Nat) = m by omega]; exact h
  | succ n ih =>
    intro q
    by_cases c : m = n + 1
    · rw [← c]; exact h
    · show (match fo it t0 n with
        | none => none
        | some t => tellS t (it n).1 (it n).2) = none
      rw [ih (by omega)]
theorem M_66 {r : Nat} (hr : r < 200) : ∀ d, d < 1000 → ∀ (ν : Mem) (i : Nat), i + d = 47 → (∀ j, j < i → ν.1 2 j = ν.1 3 j) → ∃ ν1, F_M_read_66 ν (nI r) (nI i) = some (-1000 - nI r, ν1) ∧ TM ν ν1 ∧ ∀ j, j < 47 → ν1.1 2 j = ν.1 3 j := by
  refine fun d hd => iter_run (fun d (g : Mem → Int32 → Int32 → Option (Int32 × Mem)) => ∀ (ν : Mem) (i : Nat), i + d = 47 → (∀ j, j < i → ν.1 2 j = ν.1 3 j) → ∃ ν1, g ν (nI r) (nI i) = some (-1000 - nI r, ν1) ∧ TM ν ν1 ∧ ∀ j, j < 47 → ν1.1 2 j = ν.1 3 j) ?_ ?_ NF d (NF_lt hd)
  · intro g ν i hi hj
    unfold S_M_read_66
    rw [if_pos (show (47 : Int32) ≤ nI i from (nI_leI (a := 47) (by decide) (by omega)).mpr (by omega))]
    exact ⟨ν, rfl, TM.rf ν, fun j q => hj j (by omega)⟩
  · intro d g ih ν i hi hj
    unfold S_M_read_66
    rw [if_neg (show ¬ (47 : Int32) ≤ nI i from fun z => by have := (nI_leI (a := 47) (by decide) (by omega)).mp z; omega), gd_nI (by omega) (by decide), gd_nI (by omega) (by decide), nclamp (by omega), nI_1]
    obtain ⟨ν1, e1, e2, e3⟩ := ih (stI ν 2 i (ν.1 3 i)) (i + 1) (by omega) (fun j q => by
      rw [stI_same, stI_ne _ _ _ (by decide), upd_at]
      by_cases e : j = i
      · rw [if_pos e, e]
      · rw [if_neg e]; exact hj j (by omega))
    exact ⟨ν1, e1, TM.st.tr e2, fun j q => by rw [e3 j q, stI_ne _ _ _ (by decide)]⟩
theorem RecI.tm {ν ν1 : Mem} {it : Nat → Nat × (Nat → Nat)} {k : Nat} (h : RecI ν it k) (e : ν1.1 7 = ν.1 7) : RecI ν1 it k := by
  intro j hj
  rw [e]; exact h j hj
theorem M_48 {it : Nat → Nat × (Nat → Nat)} {t0 : Nat → Nat} {k : Nat} (hk : 5 * k + 4 < 200) : ∀ d, d < 1000 → ∀ (ν : Mem) (j : Nat) (t : Nat → Nat), j + d = k → MS ν t → fo it t0 j = some t → RecI ν it k → ν.1 0 13 = nI k → (∀ T, fo it t0 k = some T → ∃ ν1, F_M_read_48 ν (nI j) = some (nI k, ν1) ∧ MF (ν1.1 2) (tset T 4 0) ∧ TM ν ν1) ∧ (∀ r t', j ≤ r → r < k → fo it t0 r = some t' → tellS t' (it r).1 (it r).2 = none → ∃ ν1, F_M_read_48 ν (nI j) = some (-1000 - nI r, ν1) ∧ TM ν ν1 ∧ ∀ i, i < 47 → ν1.1 2 i = ν.1 3 i) := by
  refine fun d hd => iter_run (fun d (g : Mem → Int32 → Option (Int32 × Mem)) => ∀ (ν : Mem) (j : Nat) (t : Nat → Nat), j + d = k → MS ν t → fo it t0 j = some t → RecI ν it k → ν.1 0 13 = nI k → (∀ T, fo it t0 k = some T → ∃ ν1, g ν (nI j) = some (nI k, ν1) ∧ MF (ν1.1 2) (tset T 4 0) ∧ TM ν ν1) ∧ (∀ r t', j ≤ r → r < k → fo it t0 r = some t' → tellS t' (it r).1 (it r).2 = none → ∃ ν1, g ν (nI j) = some (-1000 - nI r, ν1) ∧ TM ν ν1 ∧ ∀ i, i < 47 → ν1.1 2 i = ν.1 3 i)) ?_ ?_ NF d (NF_lt hd)
  · intro g ν j t hj hm hf hR h13
    have ej : j = k := by omega
    unfold S_M_read_48
    rw [h13, if_pos (show nI k ≤ nI j by rw [ej]; exact (nI_leI (by omega) (by omega)).mpr (Nat.le_refl _)), gd_t (by decide)]
    refine ⟨fun T hT => ⟨_, rfl, ?_, TM.st⟩, fun r t' q1 q2 => absurd q2 (by omega)⟩
    rw [ej, hT] at hf
    rw [Option.some.inj hf, stI_same]
    exact MF.set hm.1 4 0
  · intro d g ih ν j t hj hm hf hR h13
    obtain ⟨w4, w9, r7, rv⟩ := hR j (by omega)
    have hM := M_told hm ⟨w4, w9⟩ (show 5 * j + 4 < 200 by omega) r7 rv
    have hfs := fo_s hf
    unfold S_M_read_48
    rw [h13, if_neg (fun z => by have := (nI_leI (by omega) (by omega)).mp z; omega)]
    cases he : tellS t (it j).1 (it j).2 with
    | none =>
      rw [he] at hM hfs
      obtain ⟨ν1, e1, e2⟩ := hM
      rw [e1, bnd_s]
      refine ⟨fun T hT => ?_, fun r t' q1 q2 q3 q4 => ?_⟩
      · rw [fo_none hfs k (by omega)] at hT; cases hT
      · have er : r = j := by
          rcases Nat.lt_or_ge j r with z | z
          · rw [fo_none hfs r (by omega)] at q3; cases q3
          · omega
        subst er
        obtain ⟨ν2, g1, g2, g3⟩ := M_66 (r := r) (by omega) 47 (by decide) ν1 0 rfl (fun j q => absurd q (by omega))
        refine ⟨ν2, ?_, e2.tr g2, fun i q => by rw [g3 i q, e2.1 3 (by decide)]⟩
        show (if (0 : Int32) = 0 then F_M_read_66 ν1 (nI r) 0 else _) = _
        rw [if_pos rfl]; exact g1
    | some t1 =>
      rw [he] at hM hfs
      obtain ⟨ν1, e1, e2, e3⟩ := hM
      rw [e1, bnd_s]
      obtain ⟨i1, i2⟩ := ih ν1 (j + 1) t1 (by omega) ⟨e2, tellS_wf hm.2 he⟩ hfs (hR.tm (e3.1 7 (by decide))) (by rw [e3.1 0 (by decide)]; exact h13)
      have e10 : ∀ {α : Type} (a b : α), (if (1 : Int32) = 0 then a else b) = b := fun a b => if_neg (by decide)
      refine ⟨fun T hT => ?_, fun r t' q1 q2 q3 q4 => ?_⟩
      · obtain ⟨ν2, g1, g2, g3⟩ := i1 T hT
        refine ⟨ν2, ?_, g2, e3.tr g3⟩
        show (if (1 : Int32) = 0 then _ else g ν1 (nI j + 1)) = _
        rw [e10, nI_1]; exact g1
      · have hr : j + 1 ≤ r := by
          rcases Nat.lt_or_ge j r with z | z
          · exact z
          · have : r = j := by omega
            subst this
            rw [hf] at q3
            rw [← Option.some.inj q3, he] at q4; cases q4
        obtain ⟨ν2, g1, g2, g3⟩ := i2 r t' hr q2 q3 q4
        refine ⟨ν2, ?_, e3.tr g2, fun i q => by rw [g3 i q, e3.1 3 (by decide)]⟩
        show (if (1 : Int32) = 0 then _ else g ν1 (nI j + 1)) = _
        rw [e10, nI_1]; exact g1
theorem M_22 : ∀ d, d < 1000 → ∀ (ν : Mem) (i : Nat), i + d = 47 → (∀ j, j < i → ν.1 3 j = ν.1 2 j) → ∃ ν1, F_M_read_22 ν (nI i) = F_M_read_48 ν1 0 ∧ (∀ k, k ≠ 3 → ν1.1 k = ν.1 k) ∧ ν1.2 = ν.2 ∧ ∀ j, j < 47 → ν1.1 3 j = ν.1 2 j := by
  refine fun d hd => iter_run (fun d (g : Mem → Int32 → Option (Int32 × Mem)) => ∀ (ν : Mem) (i : Nat), i + d = 47 → (∀ j, j < i → ν.1 3 j = ν.1 2 j) → ∃ ν1, g ν (nI i) = F_M_read_48 ν1 0 ∧ (∀ k, k ≠ 3 → ν1.1 k = ν.1 k) ∧ ν1.2 = ν.2 ∧ ∀ j, j < 47 → ν1.1 3 j = ν.1 2 j) ?_ ?_ NF d (NF_lt hd)
  · intro g ν i hi hj
    unfold S_M_read_22
    rw [if_pos (show (47 : Int32) ≤ nI i from (nI_leI (a := 47) (by decide) (by omega)).mpr (by omega))]
    exact ⟨ν, rfl, fun _ _ => rfl, rfl, fun j q => hj j (by omega)⟩
  · intro d g ih ν i hi hj
    unfold S_M_read_22
    rw [if_neg (show ¬ (47 : Int32) ≤ nI i from fun z => by have := (nI_leI (a := 47) (by decide) (by omega)).mp z; omega), gd_nI (by omega) (by decide), gd_nI (by omega) (by decide), nclamp (by omega), nI_1]
    obtain ⟨ν1, e1, e2, e3, e4⟩ := ih (stI ν 3 i (ν.1 2 i)) (i + 1) (by omega) (fun j q => by
      rw [stI_same, stI_ne _ _ _ (by decide), upd_at]
      by_cases e : j = i
      · rw [if_pos e, e]
      · rw [if_neg e]; exact hj j (by omega))
    exact ⟨ν1, e1, fun k q => by rw [e2 k q, stI_ne _ _ _ q], e3, fun j q => by rw [e4 j q, stI_ne _ _ _ (by decide)]⟩
/-- the whole text, gone through by both -/
theorem begun {μ ν : Mem} {c : Nat → Nat} {L : Nat} (hL : L ≤ 150) (hc : ∀ j, j < L → c j ≤ 127 ∧ μ.1 13 j = nI (c j)) (hM : MT ν c L) (t0 : Nat → Nat) : ends μ ν t0 L (F_R_goThrough μ (nI L)) (F_M_readAll ν) := by
  have e150 : (if (150 : Int32) < nI L then (150 : Int32) else nI L) = nI L := if_neg (fun z => by have := (nI_ltI (a := 150) (by decide) (by omega)).mp z; omega)
  unfold F_R_goThrough F_R_begin F_M_readAll
  rw [e150, bnd_s]
  have hC : CT (stI (stI (stI (stI (stI μ 14 3 (nI L)) 14 4 0) 14 8 0) 14 9 (-1)) 14 10 (-1)) c L := ⟨hL, by rw [stI_same, upd_ne _ _ (by decide), stI_same, upd_ne _ _ (by decide), stI_same, upd_ne _ _ (by decide), stI_same, upd_ne _ _ (by decide), stI_same, upd_same], fun j q => by rw [stI_ne _ _ _ (by decide), stI_ne _ _ _ (by decide), stI_ne _ _ _ (by decide), stI_ne _ _ _ (by decide), stI_ne _ _ _ (by decide)]; exact hc j q⟩
  have b4 : (stI (stI (stI (stI (stI μ 14 3 (nI L)) 14 4 0) 14 8 0) 14 9 (-1)) 14 10 (-1)).1 14 4 = nI 0 := by rw [stI_same, upd_ne _ _ (by decide), stI_same, upd_ne _ _ (by decide), stI_same, upd_ne _ _ (by decide), stI_same, upd_same]; rfl
  have b8 : (stI (stI (stI (stI (stI μ 14 3 (nI L)) 14 4 0) 14 8 0) 14 9 (-1)) 14 10 (-1)).1 14 8 = nI 0 := by rw [stI_same, upd_ne _ _ (by decide), stI_same, upd_ne _ _ (by decide), stI_same, upd_same]; rfl
  have b9 : (stI (stI (stI (stI (stI μ 14 3 (nI L)) 14 4 0) 14 8 0) 14 9 (-1)) 14 10 (-1)).1 14 9 = -1 := by rw [stI_same, upd_ne _ _ (by decide), stI_same, upd_same]
  have b10 : (stI (stI (stI (stI (stI μ 14 3 (nI L)) 14 4 0) 14 8 0) 14 9 (-1)) 14 10 (-1)).1 14 10 = -1 := by rw [stI_same, upd_same]
  have bL : LC μ (stI (stI (stI (stI (stI μ 14 3 (nI L)) 14 4 0) 14 8 0) 14 9 (-1)) 14 10 (-1)) := ((((LC.st (by decide)).tr (LC.st (by decide))).tr (LC.st (by decide))).tr (LC.st (by decide))).tr (LC.st (by decide))
  revert hC b4 b8 b9 b10 bL
  generalize stI (stI (stI (stI (stI μ 14 3 (nI L)) 14 4 0) 14 8 0) 14 9 (-1)) 14 10 (-1) = m
  intro hC b4 b8 b9 b10 bL
  have hG : GM ν (stI (stI ν 0 13 0) 0 8 0) := (GM.s0 (by decide)).tr (GM.s0 (by decide))
  have g8 : (stI (stI ν 0 13 0) 0 8 0).1 0 8 = nI 0 := by rw [stI_same, upd_same]; rfl
  have g13 : (stI (stI ν 0 13 0) 0 8 0).1 0 13 = nI 0 := by rw [stI_same, upd_ne _ _ (by decide), stI_same, upd_same]; rfl
  revert hG g8 g13
  generalize stI (stI ν 0 13 0) 0 8 0 = n
  intro hG g8 g13
  obtain ⟨m1, d1, d2, d3, d4, d5, d6⟩ := C_step hC b4 (Nat.zero_le L)
  obtain ⟨n1, a1, a2, a3, a4, a5⟩ := M_tok (hG.mt hM) g8 (Nat.zero_le L)
  rw [d1, a1, bnd_s, bnd_s]
  have hq := skq_le c (Nat.zero_le L)
  have hCm := d2.ct hC
  have hMn := a2.mt (hG.mt hM)
  have m8 : m1.1 14 8 = nI 0 := (d2.2 8 (by decide)).trans b8
  have hH : HD m1 n1 c L 0 0 := ⟨hCm, hMn, Nat.zero_le L, d3, d4, d5, ⟨a3, a4, a5⟩, m8, (a2.2.1 13 (by decide)).trans g13, Nat.le_refl _⟩
  have hl : LC μ m1 := bL.tr (LC.fc d2)
  have hg : GM ν n1 := hG.tr (GM.of a2)
  by_cases h1 : kdq c L (sk' c L 0) = 1
  · have hqL : sk' c L 0 = L := kd_end.mp h1
    have hI : F_R_isItem m1 (m1.1 14 6) = some (0, m1) := by
      rw [d5, C_item m8 (by decide) (kd_9 c L _), h1]; rfl
    have e9 : ∀ g : Mem → Option Mem, S_R_goThrough_9 g m1 = some (stI m1 14 9 (nI L)) := by
      intro g
      unfold S_R_goThrough_9 F_R_goThrough_34
      rw [m8, if_pos (show nI 0 = 0 from rfl), hI, bnd_s]
      show (if (0 : Int32) = 0 then some (stI m1 14 9 (m1.1 14 5)) else _) = _
      rw [if_pos rfl, d3, hqL]
    rw [if_pos (a5.one.mpr h1)]
    refine ⟨_, n1, _, e9 _, rfl, hl.tr (LC.st (by decide)), hg, Or.inl ⟨L, Nat.le_refl _, hMn.2.1, by rw [stI_same, upd_same]⟩⟩
  · rw [if_neg (fun z => h1 (a5.one.mp z))]
    obtain ⟨μ9, ν9, x, y1, y2, y3, y4, y5⟩ := goes (t0 := t0) (L - 0) (by omega) m1 n1 0 0 (fun _ => (0, fun _ => 0)) hH ((d2.2 9 (by decide)).trans b9) (fun j hj => absurd hj (by omega)) (Or.inl ⟨(d2.2 10 (by decide)).trans b10, t0, rfl, Or.inl rfl⟩) (fun _ => h1) (Nat.le_refl _)
    exact ⟨μ9, ν9, x, y1, y2, hl.tr y3, hg.tr y4, y5⟩
