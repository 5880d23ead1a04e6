/-! Pure part (44): the text gone through by both. -/
theorem iter_run2 {α β : Type} {f : α → α} {z : α} {f' : β → β} {z' : β} (P : Nat → α → β → Prop) (h0 : ∀ g g', P 0 (f g) (f' g')) (hs : ∀ d g g', P d g g' → P (d + 1) (f g) (f' g')) : ∀ n d, d < n → P d (iter f z n) (iter f' z' n) := by
  intro n
  induction n with
  | zero => intro d h; exact absurd h (Nat.not_lt_zero _)
  | succ n ih =>
    intro d h
    cases d with
    | zero => exact h0 _ _
    | succ d => exact hs d _ _ (ih d (Nat.lt_of_succ_lt_succ h))
def fo (it : Nat → Nat × (Nat → Nat)) (t0 : Nat → Nat) : Nat → Option (Nat → Nat)
  | 0 => some t0
  | k + 1 => match fo it t0 k with
    | none => none
    | some t => tellS t (it k).1 (it k).2
theorem fo_s {it : Nat → Nat × (Nat → Nat)} {t0 t : Nat → Nat} {k : Nat} (h : fo it t0 k = some t) : fo it t0 (k + 1) = tellS t (it k).1 (it k).2 := by
  show (match fo it t0 k with
    | none => none
    | some t => tellS t (it k).1 (it k).2) = _
  rw [h]
theorem fo_eq {it it' : Nat → Nat × (Nat → Nat)} {t0 : Nat → Nat} : ∀ k, (∀ j, j < k → it' j = it j) → fo it' t0 k = fo it t0 k := by
  intro k
  induction k with
  | zero => intro _; rfl
  | succ k ih =>
    intro h
    show (match fo it' t0 k with
      | none => none
      | some t => tellS t (it' k).1 (it' k).2) = (match fo it t0 k with
      | none => none
      | some t => tellS t (it k).1 (it k).2)
    rw [ih (fun j q => h j (by omega)), h k (by omega)]
def RecI (ν : Mem) (it : Nat → Nat × (Nat → Nat)) (k : Nat) : Prop := ∀ j, j < k → 4 ≤ (it j).1 ∧ (it j).1 ≤ 9 ∧ ν.1 7 (5 * j) = nI ((it j).1 - 4) ∧ ∀ i, i < cnt (it j).1 → (it j).2 i < 100 ∧ ν.1 7 (5 * j + 1 + i) = nI ((it j).2 i)
def TLS (μ : Mem) (it : Nat → Nat × (Nat → Nat)) (t0 : Nat → Nat) (k : Nat) : Prop := (μ.1 14 10 = -1 ∧ ∃ t, fo it t0 k = some t ∧ (k = 0 ∨ (CF μ 16 t ∧ Wf t ∧ t 4 = 0))) ∨ (∃ r, r < k ∧ μ.1 14 10 = nI r ∧ ∃ t, fo it t0 r = some t ∧ tellS t (it r).1 (it r).2 = none)
def LC (μ μ1 : Mem) : Prop := ∀ k, (k < 14 ∨ 22 ≤ k) → μ1.1 k = μ.1 k
theorem LC.tr {a b c : Mem} (h1 : LC a b) (h2 : LC b c) : LC a c := fun k q => (h2 k q).trans (h1 k q)
theorem LC.gc {a b : Mem} (h : GC a b) : LC a b := fun k q => h.1 k (by omega) (by omega)
theorem LC.fc {a b : Mem} (h : FC a b) : LC a b := fun k q => h.1 k (by omega)
theorem LC.ts {a b : Mem} (h : TS a b) : LC a b := fun k q => h k (by omega)
theorem LC.st {μ : Mem} {k j : Nat} {v : Int32} (h : 14 ≤ k ∧ k < 22) : LC μ (stI μ k j v) := fun i q => stI_ne _ _ _ (by omega)
theorem CF.fc {μ μ1 : Mem} {t : Nat → Nat} (h : CF μ 16 t) (hk : ∀ k, 16 ≤ k → k < 22 → μ1.1 k = μ.1 k) : CF μ1 16 t := h.keep (fun k q r => hk k q (by omega))
/-- both at the next item's head -/
theorem next_head {m ν : Mem} {c : Nat → Nat} {L p k : Nat} (h : CT m c L) (h4 : m.1 14 4 = nI p) (h8 : m.1 14 8 = nI k) (hM : MT ν c L) (hS : CS ν c L p) (h13 : ν.1 0 13 = nI (k + 1)) (hp : p ≤ L) (hk : 4 * (k + 1) ≤ p) : ∃ m1, F_R_step (stI m 14 8 (m.1 14 8 + 1)) = some m1 ∧ HD m1 ν c L p (k + 1) ∧ (∀ i, i ≠ 14 → m1.1 i = m.1 i) ∧ ∀ j, 8 < j → m1.1 14 j = m.1 14 j := by
  have hC : CT (stI m 14 8 (nI (k + 1))) c L := ⟨h.1, by rw [stI_same, upd_ne _ _ (by decide)]; exact h.2.1, fun j q => by rw [stI_ne _ _ _ (by decide)]; exact h.2.2 j q⟩
  obtain ⟨m1, e1, e2, e3, e4, e5, e6⟩ := C_step hC (show (stI m 14 8 (nI (k + 1))).1 14 4 = nI p by rw [stI_same, upd_ne _ _ (by decide)]; exact h4) hp
  rw [h8, nI_1, e1]
  refine ⟨m1, rfl, ⟨e2.ct hC, hM, hp, e3, e4, e5, hS, by rw [e2.2 8 (by omega), stI_same, upd_same], h13, hk⟩, fun i q => by rw [e2.1 i q, stI_ne _ _ _ q], fun j q => by rw [e2.2 j (by omega), stI_same, upd_ne _ _ (by omega)]⟩
/-- the class tells the item, or has been refused one -/
theorem telling {m : Mem} {it : Nat → Nat × (Nat → Nat)} {t0 : Nat → Nat} {k w : Nat} {v : Nat → Nat} (hT : TLS m it t0 k) (hk : k < 200) (h8 : m.1 14 8 = nI k) (hw : 4 ≤ w ∧ w ≤ 9) (hkw : k = 0 ↔ w = 4) (hv : ∀ j, j < cnt w → v j < 100 ∧ m.1 15 j = nI (v j)) (K : Mem → Option Mem) : ∃ m2, (if m.1 14 10 = -1 then bnd (F_R_tell m (nI w)) (fun q => (fun (r2 : Int32) (m2 : Mem) => if r2 = 0 then F_R_goThrough_80 K (stI m2 14 10 (m2.1 14 8)) else F_R_goThrough_80 K m2) q.1 q.2) else F_R_goThrough_80 K m) = F_R_goThrough_80 K m2 ∧ (∀ i, (i < 14 ∨ i = 15 ∨ 22 ≤ i) → m2.1 i = m.1 i) ∧ (∀ j, j ≠ 10 → m2.1 14 j = m.1 14 j) ∧ TLS m2 (fun j => if j = k then (w, v) else it j) t0 (k + 1) := by
  have hit : (if k = k then (w, v) else it k) = (w, v) := if_pos rfl
  have hfo : ∀ j, j ≤ k → fo (fun j => if j = k then (w, v) else it j) t0 j = fo it t0 j := fun j q => fo_eq j (fun i r => if_neg (by omega))
  rcases hT with ⟨h10, t, ht, hf⟩ | ⟨r, hr, h10, t, ht, hn⟩
  · have hC := C_tell (μ := m) (t := t) (v := v) hw (by
      rcases hf with q | q
      · exact Or.inl (hkw.mp q)
      · exact Or.inr q) hv
    rw [if_pos h10]
    cases he : tellS t w v with
    | none =>
      rw [he] at hC
      have hC' : F_R_tell m (nI w) = some (0, m) := hC
      rw [hC', bnd_s]
      refine ⟨stI m 14 10 (nI k), ?_, fun i q => stI_ne _ _ _ (by omega), fun j q => by rw [stI_same, upd_ne _ _ q], Or.inr ⟨k, by omega, by rw [stI_same, upd_same], t, (hfo k (Nat.le_refl _)).trans ht, ?_⟩⟩
      · show (if (0 : Int32) = 0 then _ else _) = _
        rw [if_pos rfl, h8]
      · show tellS t (if k = k then (w, v) else it k).1 (if k = k then (w, v) else it k).2 = none
        rw [hit]; exact he
    | some t' =>
      rw [he] at hC
      obtain ⟨m2, e1, e2, e3, e4, e5⟩ := hC
      rw [e1, bnd_s]
      refine ⟨m2, ?_, fun i q => e5 i (by omega), fun j q => by rw [e5 14 (by omega)], Or.inl ⟨by rw [e5 14 (by omega)]; exact h10, t', ?_, Or.inr ⟨e2, e3, e4⟩⟩⟩
      · show (if (1 : Int32) = 0 then _ else _) = _
        rw [if_neg (by decide)]
      · rw [fo_s ((hfo k (Nat.le_refl _)).trans ht)]
        show tellS t (if k = k then (w, v) else it k).1 (if k = k then (w, v) else it k).2 = some t'
        rw [hit]; exact he
  · rw [if_neg (by rw [h10]; exact ne_m1 (by omega))]
    refine ⟨m, rfl, fun _ _ => rfl, fun _ _ => rfl, Or.inr ⟨r, by omega, h10, t, (hfo r (by omega)).trans ht, ?_⟩⟩
    show tellS t (if r = k then (w, v) else it r).1 (if r = k then (w, v) else it r).2 = none
    rw [if_neg (by omega)]; exact hn
def ends (μ ν : Mem) (t0 : Nat → Nat) (L : Nat) (oc : Option Mem) (om : Option (Int32 × Mem)) : Prop := ∃ μ1 ν1 x, oc = some μ1 ∧ om = some (x, ν1) ∧ LC μ μ1 ∧ GM ν ν1 ∧ ((∃ f, f ≤ L ∧ x = nI f ∧ μ1.1 14 9 = nI f) ∨ (x = -1 ∧ μ1.1 14 9 = -1 ∧ ∃ k it, 0 < k ∧ 5 * k + 4 < 200 ∧ μ1.1 14 8 = nI k ∧ ν1.1 0 13 = nI k ∧ RecI ν1 it k ∧ TLS μ1 it t0 k))
theorem GM.rf (ν : Mem) : GM ν ν := ⟨fun _ _ _ => rfl, fun _ _ => rfl, fun _ _ => rfl⟩
theorem ended {μ ν : Mem} {c : Nat → Nat} {t0 : Nat → Nat} {L p k : Nat} {it : Nat → Nat × (Nat → Nat)} (h : HD μ ν c L p k) (h9 : μ.1 14 9 = -1) (hR : RecI ν it k) (hT : TLS μ it t0 k) (hk : 0 < k) (h1 : kdq c L (sk' c L p) = 1) (g : Mem → Option Mem) (g' : Mem → Option (Int32 × Mem)) : ends μ ν t0 L (S_R_goThrough_9 g μ) (S_M_readAll_27 g' ν) := by
  obtain ⟨hC, hM, hp, h5, h4, h6, hS, h8, h13, hk4⟩ := h
  have hL := hC.1
  unfold S_R_goThrough_9 S_M_readAll_27
  rw [h8, if_neg (nz (by omega) (by omega)), h6, if_pos (show nI (kdq c L (sk' c L p)) = 1 by rw [h1]; rfl), if_pos (hS.2.2.one.mpr h1)]
  exact ⟨μ, ν, -1, rfl, rfl, fun _ _ => rfl, GM.rf ν, Or.inr ⟨rfl, h9, k, it, hk, by omega, h8, h13, hR, hT⟩⟩
theorem goes {c : Nat → Nat} {t0 : Nat → Nat} {L : Nat} : ∀ d, d < 1000 → ∀ (μ ν : Mem) (p k : Nat) (it : Nat → Nat × (Nat → Nat)), HD μ ν c L p k → μ.1 14 9 = -1 → RecI ν it k → TLS μ it t0 k → (k = 0 → kdq c L (sk' c L p) ≠ 1) → L - p ≤ d → ends μ ν t0 L (F_R_goThrough_9 μ) (F_M_readAll_27 ν) := by
  refine fun d hd => iter_run2 (fun d (g : Mem → Option Mem) (g' : Mem → Option (Int32 × Mem)) => ∀ (μ ν : Mem) (p k : Nat) (it : Nat → Nat × (Nat → Nat)), HD μ ν c L p k → μ.1 14 9 = -1 → RecI ν it k → TLS μ it t0 k → (k = 0 → kdq c L (sk' c L p) ≠ 1) → L - p ≤ d → ends μ ν t0 L (g μ) (g' ν)) ?_ ?_ NF d (NF_lt hd)
  · intro g g' μ ν p k it h h9 hR hT h0 hd
    have hp := h.2.2.1
    have hq := skq_le c hp
    have h1 : kdq c L (sk' c L p) = 1 := kd_end.mpr (by omega)
    exact ended h h9 hR hT (Nat.pos_of_ne_zero (fun q => h0 q h1)) h1 g g'
  · intro d g g' ih μ ν p k it h h9 hR hT h0 hd
    by_cases h1 : kdq c L (sk' c L p) = 1
    · exact ended h h9 hR hT (Nat.pos_of_ne_zero (fun q => h0 q h1)) h1 g g'
    · have hI := item h
      obtain ⟨hC, hM, hp, h5, h4, h6, hS, h8, h13, hk4⟩ := h
      have hL := hC.1
      have k9 := kd_9 c L (sk' c L p)
      have e34 : S_R_goThrough_9 g μ = F_R_goThrough_34 g μ := by
        unfold S_R_goThrough_9
        rw [h8, h6]
        by_cases c0 : k = 0
        · rw [if_pos (show nI k = 0 by rw [c0]; rfl)]
        · rw [if_neg (nz (by omega) c0), if_neg (show ¬ nI (kdq c L (sk' c L p)) = 1 from fun z => h1 ((nI_eq (b := 1) (by omega) (by decide)).mp z)), if_neg (show ¬ (150 : Int32) ≤ nI k from fun z => by have := (nI_leI (a := 150) (by decide) (by omega)).mp z; omega)]
      rw [e34]
      unfold F_R_goThrough_34 S_M_readAll_27
      rw [if_neg (fun z => h1 (hS.2.2.one.mp z)), h6]
      rcases hI with ⟨μ1, ν1, a1, a2, a3, a4, f, f1, f2, f3⟩ | ⟨μ1, ν1, w, p1, ew, w4, w9, kw, a1, a2, a3, a4, p1L, pp1, b4, bS, b13, b7, bl, v, bv⟩
      · rw [a1, a2, bnd_s, bnd_s]
        refine ⟨stI μ1 14 9 (nI f), ν1, nI f, ?_, ?_, (LC.gc a3).tr (LC.st (by omega)), a4, Or.inl ⟨f, f1, rfl, by rw [stI_same, upd_same]⟩⟩
        · show (if (0 : Int32) = 0 then some (stI μ1 14 9 (μ1.1 14 5)) else _) = _
          rw [if_pos rfl, f2]
        · show (if (0 : Int32) = 0 then (if ν1.1 0 10 = 1 then some (ν1.1 0 7, ν1) else some (ν1.1 0 9, ν1)) else _) = _
          rw [if_pos rfl, ← f3]
          by_cases z : ν1.1 0 10 = 1
          · rw [if_pos z, if_pos z]
          · rw [if_neg z, if_neg z]
      · rw [← ew, a1, a2, bnd_s, bnd_s]
        have hT1 : TLS μ1 it t0 k := by
          rcases hT with ⟨q1, t, q2, q3⟩ | ⟨r, q1, q2, q3⟩
          · exact Or.inl ⟨by rw [a3.2 10 (by omega)]; exact q1, t, q2, q3.elim Or.inl (fun q => Or.inr ⟨q.1.fc (fun i x y => a3.1 i (by omega) (by omega)), q.2⟩)⟩
          · exact Or.inr ⟨r, q1, by rw [a3.2 10 (by omega)]; exact q2, q3⟩
        have m8 : μ1.1 14 8 = nI k := (a3.2 8 (by omega)).trans h8
        obtain ⟨m2, c1, c2, c3, c4⟩ := telling hT1 (by omega) m8 ⟨w4, w9⟩ kw (fun j hj => ⟨(bv j hj).1, (bv j hj).2.1⟩) g
        have hC2 : CT m2 c L := ⟨hC.1, by rw [c3 3 (by decide), a3.2 3 (by omega)]; exact hC.2.1, fun j q => by rw [c2 13 (by omega), a3.1 13 (by decide) (by decide)]; exact hC.2.2 j q⟩
        obtain ⟨m3, d1, d2, d3, d4⟩ := next_head (k := k) hC2 (by rw [c3 4 (by decide)]; exact b4) (by rw [c3 8 (by decide)]; exact m8) (a4.mt hM) bS b13 p1L (by omega)
        have hT3 : TLS m3 (fun j => if j = k then (w, v) else it j) t0 (k + 1) := by
          rcases c4 with ⟨q1, t, q2, q3⟩ | ⟨r, q1, q2, q3⟩
          · exact Or.inl ⟨by rw [d4 10 (by omega)]; exact q1, t, q2, q3.elim Or.inl (fun q => Or.inr ⟨q.1.fc (fun i x y => d3 i (by omega)), q.2⟩)⟩
          · exact Or.inr ⟨r, q1, by rw [d4 10 (by omega)]; exact q2, q3⟩
        have hR3 : RecI ν1 (fun j => if j = k then (w, v) else it j) (k + 1) := by
          intro j hj
          by_cases e : j = k
          · subst e
            show 4 ≤ (if j = j then (w, v) else it j).1 ∧ (if j = j then (w, v) else it j).1 ≤ 9 ∧ ν1.1 7 (5 * j) = nI ((if j = j then (w, v) else it j).1 - 4) ∧ ∀ i, i < cnt (if j = j then (w, v) else it j).1 → (if j = j then (w, v) else it j).2 i < 100 ∧ ν1.1 7 (5 * j + 1 + i) = nI ((if j = j then (w, v) else it j).2 i)
            rw [if_pos rfl]
            exact ⟨w4, w9, b7, fun i hi => ⟨(bv i hi).1, (bv i hi).2.2⟩⟩
          · show 4 ≤ (if j = k then (w, v) else it j).1 ∧ (if j = k then (w, v) else it j).1 ≤ 9 ∧ ν1.1 7 (5 * j) = nI ((if j = k then (w, v) else it j).1 - 4) ∧ ∀ i, i < cnt (if j = k then (w, v) else it j).1 → (if j = k then (w, v) else it j).2 i < 100 ∧ ν1.1 7 (5 * j + 1 + i) = nI ((if j = k then (w, v) else it j).2 i)
            rw [if_neg e]
            obtain ⟨x1, x2, x3, x4⟩ := hR j (by omega)
            have := cnt_le (it j).1
            exact ⟨x1, x2, by rw [bl _ (by omega)]; exact x3, fun i hi => ⟨(x4 i hi).1, by rw [bl _ (by omega)]; exact (x4 i hi).2⟩⟩
        obtain ⟨μ9, ν9, x, y1, y2, y3, y4, y5⟩ := ih m3 ν1 p1 (k + 1) _ d2 (by rw [d4 9 (by omega), c3 9 (by decide), a3.2 9 (by omega)]; exact h9) hR3 hT3 (fun z => absurd z (by omega)) (by omega)
        have hl : LC μ m3 := fun i q => by rw [d3 i (by omega), c2 i (by omega), a3.1 i (by omega) (by omega)]
        refine ⟨μ9, ν9, x, ?_, y2, hl.tr y3, a4.tr y4, y5⟩
        show (if (1 : Int32) = 0 then some (stI μ1 14 9 (μ1.1 14 5)) else (if μ1.1 14 10 = -1 then bnd (F_R_tell μ1 (nI w)) (fun q => (fun (r2 : Int32) (m2 : Mem) => if r2 = 0 then F_R_goThrough_80 g (stI m2 14 10 (m2.1 14 8)) else F_R_goThrough_80 g m2) q.1 q.2) else F_R_goThrough_80 g μ1)) = some μ9
        rw [if_neg (by decide), c1]
        unfold F_R_goThrough_80
        rw [d1, bnd_s]
        exact y1
