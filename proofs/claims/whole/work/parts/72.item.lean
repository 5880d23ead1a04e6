/-! Pure part (43): an item read by both. -/
def vld (k w : Nat) : Bool := if k = 0 then decide (w = 4) else decide (4 < w)
theorem C_item {μ : Mem} {k w : Nat} (h8 : μ.1 14 8 = nI k) (hk : k < 200) (hw : w ≤ 9) : F_R_isItem μ (nI w) = if vld k w = true then F_R_isItem_39 μ (nI w) 0 else some (0, μ) := by
  unfold F_R_isItem F_R_isItem_30 vld
  rw [h8, if_neg (show ¬ (1 : Int32) = 0 by decide), if_pos (show (0 : Int32) = 0 from rfl)]
  by_cases c : k = 0
  · rw [if_pos (show nI k = 0 by rw [c]; rfl), if_pos c]
    by_cases c2 : w = 4
    · rw [if_pos (show nI w = 4 by rw [c2]; rfl), decide_eq_true c2, if_pos rfl]
    · rw [if_neg (show ¬ nI w = 4 from fun z => c2 ((nI_eq (b := 4) (by omega) (by decide)).mp z)), decide_eq_false c2, if_neg (show ¬ false = true by decide)]
  · rw [if_neg (nz (by omega) c), if_neg c]
    by_cases c2 : 4 < w
    · rw [if_neg (show ¬ nI w ≤ 4 from fun z => by have := (nI_leI (b := 4) (by omega) (by decide)).mp z; omega), decide_eq_true c2, if_pos rfl]
    · rw [if_pos (show nI w ≤ 4 from (nI_leI (b := 4) (by omega) (by decide)).mpr (by omega)), decide_eq_false c2, if_neg (show ¬ false = true by decide)]
theorem M_code {ν : Mem} {w v : Nat} (h : TokM ν w v) : F_M_readItem ν = F_M_readItem_103 ν (if 4 ≤ w then nI (w - 4) else -1) := by
  unfold F_M_readItem
  rcases h with ⟨a, e⟩ | ⟨a, e, _⟩ | ⟨a, e⟩ | ⟨a, b, e, e2⟩ | ⟨a, e⟩
  · rw [e, if_neg (show ¬ (1 : Int32) = 2 by decide), if_neg (by omega)]
  · rw [e, if_neg (show ¬ (3 : Int32) = 2 by decide), if_neg (by omega)]
  · rw [e, if_neg (show ¬ (4 : Int32) = 2 by decide), if_neg (by omega)]
  · rw [e, if_pos (show (2 : Int32) = 2 from rfl), if_pos a, e2]
    rcases (show w = 4 ∨ w = 5 ∨ w = 6 ∨ w = 7 ∨ w = 8 ∨ w = 9 by omega) with rfl | rfl | rfl | rfl | rfl | rfl
    · rw [if_pos (show lg_cmp (lN (wcode 4)) 397703 = 0 by decide)]; rfl
    · rw [if_neg (show ¬ lg_cmp (lN (wcode 5)) 397703 = 0 by decide), if_pos (show lg_cmp (lN (wcode 5)) 11806 = 0 by decide)]; rfl
    · rw [if_neg (show ¬ lg_cmp (lN (wcode 6)) 397703 = 0 by decide), if_neg (show ¬ lg_cmp (lN (wcode 6)) 11806 = 0 by decide), if_pos (show lg_cmp (lN (wcode 6)) 16922 = 0 by decide)]; rfl
    · rw [if_neg (show ¬ lg_cmp (lN (wcode 7)) 397703 = 0 by decide), if_neg (show ¬ lg_cmp (lN (wcode 7)) 11806 = 0 by decide), if_neg (show ¬ lg_cmp (lN (wcode 7)) 16922 = 0 by decide), if_pos (show lg_cmp (lN (wcode 7)) 453774 = 0 by decide)]; rfl
    · rw [if_neg (show ¬ lg_cmp (lN (wcode 8)) 397703 = 0 by decide), if_neg (show ¬ lg_cmp (lN (wcode 8)) 11806 = 0 by decide), if_neg (show ¬ lg_cmp (lN (wcode 8)) 16922 = 0 by decide), if_neg (show ¬ lg_cmp (lN (wcode 8)) 453774 = 0 by decide), if_pos (show lg_cmp (lN (wcode 8)) 298288 = 0 by decide)]; rfl
    · rw [if_neg (show ¬ lg_cmp (lN (wcode 9)) 397703 = 0 by decide), if_neg (show ¬ lg_cmp (lN (wcode 9)) 11806 = 0 by decide), if_neg (show ¬ lg_cmp (lN (wcode 9)) 16922 = 0 by decide), if_neg (show ¬ lg_cmp (lN (wcode 9)) 453774 = 0 by decide), if_neg (show ¬ lg_cmp (lN (wcode 9)) 298288 = 0 by decide), if_pos (show lg_cmp (lN (wcode 9)) 149099 = 0 by decide)]; rfl
  · rw [if_neg (show ¬ 4 ≤ w by omega)]
    rcases e with e | ⟨e, e2⟩
    · rw [e, if_neg (show ¬ (0 : Int32) = 2 by decide)]
    · have z : ∀ j, 4 ≤ j → j ≤ 9 → ∀ y : Int64, y = lN (wcode j) → ¬ lg_cmp (ν.2 11) y = 0 := fun j p q y ey r => e2 j p q (((cmp_eq _ _).mp r).trans ey)
      rw [e, if_pos (show (2 : Int32) = 2 from rfl), if_neg (z 4 (by decide) (by decide) 397703 rfl), if_neg (z 5 (by decide) (by decide) 11806 rfl), if_neg (z 6 (by decide) (by decide) 16922 rfl), if_neg (z 7 (by decide) (by decide) 453774 rfl), if_neg (z 8 (by decide) (by decide) 298288 rfl), if_neg (z 9 (by decide) (by decide) 149099 rfl)]
theorem M_item {ν : Mem} {k w v : Nat} (h : TokM ν w v) (h13 : ν.1 0 13 = nI k) (hk : k < 200) (hw : w ≤ 9) : F_M_readItem ν = if vld k w = true then F_M_readItem_154 ν (nI (w - 4)) (nI (cnt w)) else some (0, ν) := by
  rw [M_code h]
  unfold F_M_readItem_103 F_M_readItem_118 F_M_readItem_130 vld
  rw [h13]
  by_cases c4 : 4 ≤ w
  · rw [if_pos c4, if_neg (ne_m1 (by omega))]
    by_cases c : k = 0
    · rw [if_pos (show nI k = 0 by rw [c]; rfl), if_pos c]
      by_cases c2 : w = 4
      · rw [if_pos (show nI (w - 4) = 0 by rw [c2]; rfl), if_pos (show (1 : Int32) = 1 from rfl), decide_eq_true c2, if_pos rfl, c2]
        rfl
      · rw [if_neg (nz (a := w - 4) (by omega) (by omega)), if_pos (show nI k = 0 by rw [c]; rfl), if_neg (show ¬ (0 : Int32) = 1 by decide), decide_eq_false c2, if_neg (show ¬ false = true by decide)]
    · rw [if_neg (nz (by omega) c), if_neg c]
      by_cases c2 : 4 < w
      · rw [if_neg (nz (a := w - 4) (by omega) (by omega)), if_neg (nz (by omega) c), if_pos (show (0 : Int32) = 0 from rfl), decide_eq_true c2, if_pos (show true = true from rfl)]
        rcases (show w = 5 ∨ w = 6 ∨ w = 7 ∨ w = 8 ∨ w = 9 by omega) with rfl | rfl | rfl | rfl | rfl <;> rfl
      · rw [if_pos (show nI (w - 4) = 0 by rw [show w - 4 = 0 by omega]; rfl), if_neg (show ¬ (1 : Int32) = 0 by decide), decide_eq_false c2, if_neg (show ¬ false = true by decide)]
  · rw [if_neg c4, if_pos (show (-1 : Int32) = -1 from rfl)]
    by_cases c : k = 0
    · rw [if_pos c, decide_eq_false (show ¬ w = 4 by omega), if_neg (show ¬ false = true by decide)]
    · rw [if_neg c, decide_eq_false (show ¬ 4 < w by omega), if_neg (show ¬ false = true by decide)]
theorem kd_9 (c : Nat → Nat) (L q : Nat) : kdq c L q ≤ 9 := by
  unfold kdq
  have := wd_9 c q (run lt c (L - q) q - q)
  repeat' split
  all_goals omega
theorem vld_4 {k w : Nat} (h : vld k w = true) : 4 ≤ w ∧ (k = 0 ↔ w = 4) := by
  unfold vld at h
  by_cases c : k = 0
  · rw [if_pos c] at h
    have := of_decide_eq_true h
    omega
  · rw [if_neg c] at h
    have := of_decide_eq_true h
    omega
/-- both at an item's head -/
def HD (μ ν : Mem) (c : Nat → Nat) (L p k : Nat) : Prop := CT μ c L ∧ MT ν c L ∧ p ≤ L ∧ μ.1 14 5 = nI (sk' c L p) ∧ μ.1 14 4 = nI (enq c L (sk' c L p)) ∧ μ.1 14 6 = nI (kdq c L (sk' c L p)) ∧ CS ν c L p ∧ μ.1 14 8 = nI k ∧ ν.1 0 13 = nI k ∧ 4 * k ≤ p
theorem item {μ ν : Mem} {c : Nat → Nat} {L p k : Nat} (h : HD μ ν c L p k) :
    (∃ μ1 ν1, F_R_isItem μ (nI (kdq c L (sk' c L p))) = some (0, μ1) ∧ F_M_readItem ν = some (0, ν1) ∧ GC μ μ1 ∧ GM ν ν1 ∧ FA μ1 ν1 L) ∨
    (∃ μ1 ν1 w p1, w = kdq c L (sk' c L p) ∧ 4 ≤ w ∧ w ≤ 9 ∧ (k = 0 ↔ w = 4) ∧ F_R_isItem μ (nI w) = some (1, μ1) ∧ F_M_readItem ν = some (1, ν1) ∧ GC μ μ1 ∧ GM ν ν1 ∧ p1 ≤ L ∧ p + 4 ≤ p1 ∧ μ1.1 14 4 = nI p1 ∧ CS ν1 c L p1 ∧ ν1.1 0 13 = nI (k + 1) ∧ ν1.1 7 (5 * k) = nI (w - 4) ∧ (∀ l, l < 5 * k → ν1.1 7 l = ν.1 7 l) ∧ ∃ v : Nat → Nat, ∀ j, j < cnt w → v j < 100 ∧ μ1.1 15 j = nI (v j) ∧ ν1.1 7 (5 * k + 1 + j) = nI (v j)) := by
  obtain ⟨hC, hM, hp, h5, h4, h6, hS, h8, h13, hk4⟩ := h
  have hL := hC.1
  have hq := skq_le c hp
  have he := en_le (c := c) hq.2
  have h9 := kd_9 c L (sk' c L p)
  rw [C_item h8 (by omega) h9, M_item hS.2.2 h13 (by omega) h9]
  by_cases c1 : vld k (kdq c L (sk' c L p)) = true
  · obtain ⟨w4, wk⟩ := vld_4 c1
    have hc14 := cnt_le (kdq c L (sk' c L p))
    have e4 := he.2.2.2 w4
    rw [if_pos c1, if_pos c1]
    unfold F_M_readItem_154
    rw [h13, lit 5, nmul, gd_nI (by omega) (by decide), nclamp (by omega)]
    have hG : GM ν (stI ν 7 (5 * k) (nI (kdq c L (sk' c L p) - 4))) := GM.st
    obtain ⟨n1, a1, a2, a3, a4, a5⟩ := M_tok (hG.mt hM) (show (stI ν 7 (5 * k) (nI (kdq c L (sk' c L p) - 4))).1 0 8 = nI (enq c L (sk' c L p)) by rw [stI_ne _ _ _ (by decide)]; exact hS.2.1) he.2.1
    rw [a1, bnd_s]
    obtain ⟨μ1, b1, b2, b3, b4, b5, b6⟩ := C_nums h9 (cnt (kdq c L (sk' c L p))) (by omega) μ (enq c L (sk' c L p)) 0 hC h4 he.2.1 (by omega)
    obtain ⟨n2, g1, g2, g3, g4, g5, g6⟩ := M_nums (k := k) (N := cnt (kdq c L (sk' c L p))) (by omega) hc14.2 (cnt (kdq c L (sk' c L p))) (by omega) n1 (enq c L (sk' c L p)) 0 (a2.mt (hG.mt hM)) ⟨a3, a4, a5⟩ he.2.1 (by omega) (by rw [a2.2.1 13 (by omega), stI_ne _ _ _ (by decide)]; exact h13)
    have hGM : GM ν n2 := hG.tr ((GM.of a2).tr g2)
    obtain ⟨f1, f2, f3⟩ := fl_le (c := c) (cnt (kdq c L (sk' c L p))) (enq c L (sk' c L p)) he.2.1
    rw [show F_R_isItem_39 μ (nI (kdq c L (sk' c L p))) 0 = _ from b1, show F_M_readItem_173 n1 (nI (cnt (kdq c L (sk' c L p)))) 0 = _ from g1]
    cases hf : (fl c L (cnt (kdq c L (sk' c L p))) (enq c L (sk' c L p))).2 with
    | false => exact Or.inl ⟨μ1, n2, rfl, rfl, b2, hGM, FA.mk (hGM.mt hM) f2 b3 (g3 hf)⟩
    | true =>
      obtain ⟨f4, f5⟩ := f3 hf
      have hq2 := skq_le c f2
      have he2 := en_le (c := c) hq2.2
      have he3 := he2.2.2.1 (by omega)
      refine Or.inr ⟨μ1, n2, _, enq c L (sk' c L (fl c L (cnt (kdq c L (sk' c L p))) (enq c L (sk' c L p))).1), rfl, w4, h9, wk, by rw [C_item h8 (by omega) h9, if_pos c1]; exact (show F_R_isItem_39 μ (nI (kdq c L (sk' c L p))) 0 = _ from b1).trans (by rw [hf]; rfl), rfl, b2, hGM, he2.2.1, by omega, b4, (g4 hf).1, (g4 hf).2, ?_, fun l hl => ?_, fun j => nu c L (enq c L (sk' c L p)) j, fun j hj => ⟨nu_lt c L j _, ?_, ?_⟩⟩
      · rw [g5 _ (by omega), a2.1 7 (by decide), stI_same, upd_same]
      · rw [g5 _ (by omega), a2.1 7 (by decide), stI_same, upd_ne _ _ (by omega)]
      · rw [← b6 hf j hj, Nat.zero_add]
      · rw [← g6 hf j hj, Nat.add_zero]
  · rw [if_neg c1, if_neg c1]
    exact Or.inl ⟨μ, ν, rfl, rfl, ⟨fun _ _ _ => rfl, fun _ _ => rfl⟩, ⟨fun _ _ _ => rfl, fun _ _ => rfl, fun _ _ => rfl⟩, FA.mk hM hp h5 hS⟩
