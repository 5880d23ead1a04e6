/-! Pure part (14): what gusts are borne, and the weakest way. -/
def bst (P : Nat → Bool) : Nat → Nat → Nat
  | 0, s => s
  | d + 1, s => if P (s + 1) = true then bst P d (s + 1) else s
theorem bst_le (P : Nat → Bool) : ∀ d s, bst P d s ≤ s + d := by
  intro d
  induction d with
  | zero => intro s; exact Nat.le_refl _
  | succ d ih =>
    intro s
    show (if P (s + 1) = true then bst P d (s + 1) else s) ≤ _
    split
    · have := ih (s + 1); omega
    · omega
theorem bst_eq {P Q : Nat → Bool} : ∀ d s, (∀ j, j ≤ s + d → P j = Q j) → bst P d s = bst Q d s := by
  intro d
  induction d with
  | zero => intro s _; rfl
  | succ d ih =>
    intro s h
    show (if P (s + 1) = true then bst P d (s + 1) else s) = (if Q (s + 1) = true then bst Q d (s + 1) else s)
    rw [h (s + 1) (by omega), ih (s + 1) (fun j hj => h j (by omega))]
def bv (T : Nat → Nat) (st v r wl : Nat) : Nat := bst (fun s => takes T st v s r wl) 60 0
theorem bv_le (T : Nat → Nat) (st v r wl : Nat) : bv T st v r wl ≤ 60 := by have := bst_le (fun s => takes T st v s r wl) 60 0; unfold bv; omega
def limF (T : Nat → Nat) (st v r : Nat) : Nat → Nat → Nat → Nat
  | 0, _, a => a
  | d + 1, k, a => limF T st v r d (k + 1) (if st.testBit k = true ∧ 0 < shr (way (T 0) k r) v then min ((4 * holds T st k + 3) / shr (way (T 0) k r) v) a else a)
theorem limF_le (T : Nat → Nat) (st v r : Nat) : ∀ d k a, limF T st v r d k a ≤ a := by
  intro d
  induction d with
  | zero => intro k a; exact Nat.le_refl _
  | succ d ih =>
    intro k a
    refine Nat.le_trans (ih _ _) ?_
    split
    · exact Nat.min_le_right _ _
    · exact Nat.le_refl _
theorem limF_iff (T : Nat → Nat) (st v s r wl : Nat) : ∀ d k a, stg wl v s ≤ limF T st v r d k a ↔ stg wl v s ≤ a ∧ takesF T st v s r wl d k = true := by
  intro d
  induction d with
  | zero => intro k a; simp [limF, takesF]
  | succ d ih =>
    intro k a
    show stg wl v s ≤ limF T st v r d (k + 1) _ ↔ stg wl v s ≤ a ∧ ((!st.testBit k || decide (pull T k v s r wl ≤ holds T st k)) && takesF T st v s r wl d (k + 1)) = true
    rw [ih]
    unfold pull
    generalize holds T st k = H
    generalize stg wl v s = g
    generalize shr (way (T 0) k r) v = sh
    generalize takesF T st v s r wl d (k + 1) = R
    cases st.testBit k with
    | false => simp
    | true =>
      by_cases c : 0 < sh
      · rw [if_pos ⟨rfl, c⟩]
        have e : g ≤ (4 * H + 3) / sh ↔ g * sh / 4 ≤ H := by
          rw [Nat.le_div_iff_mul_le c]
          generalize g * sh = p
          omega
        rw [Nat.le_min, e]
        simp
        constructor
        · rintro ⟨⟨a1, a2⟩, a3⟩; exact ⟨a2, a1, a3⟩
        · rintro ⟨a2, a1, a3⟩; exact ⟨⟨a1, a2⟩, a3⟩
      · have : sh = 0 := by omega
        rw [if_neg (fun q => c q.2), this]
        simp
section BRN
variable {μ : Mem} {t : Nat → Nat} {st wl r db : Nat}
theorem C_65 (h : GS μ t st wl r db) {v L : Nat} (hv : v < 8) (hL : L ≤ 120) : ∀ d, d < 1000 → ∀ i, i + d = 60 → F_G_borneBy_65 μ (nI v) (nI L) (nI i) = some (nI (bst (fun s => decide (stg wl v s ≤ L)) d i)) := by
  refine fun d hd => iter_run (fun d (g : Mem → Int32 → Int32 → Int32 → Option Int32) => ∀ i, i + d = 60 → g μ (nI v) (nI L) (nI i) = some (nI (bst (fun s => decide (stg wl v s ≤ L)) d i))) ?_ ?_ NF d (NF_lt hd)
  · intro g i hi
    unfold S_G_borneBy_65
    rw [lit 60, if_pos ((nI_leI (by omega) (by omega)).mpr (by omega))]
    rfl
  · intro d g ih i hi
    unfold S_G_borneBy_65
    have hs := stg_le (wl := wl) (v := v) (s := i + 1) (by omega)
    rw [lit 60, if_neg (fun q => by have := (nI_leI (by omega) (by omega)).mp q; omega), lit 1, nI_add, C_walls h hv (by omega), bnd_s]
    show _ = some (nI (if decide (stg wl v (i + 1) ≤ L) = true then _ else i))
    by_cases c : stg wl v (i + 1) ≤ L
    · rw [if_neg (fun q => by have := (nI_ltI (by omega) (by omega)).mp q; omega), if_pos (decide_eq_true c)]
      exact ih (i + 1) (by omega)
    · rw [if_pos ((nI_ltI (by omega) (by omega)).mpr (by omega)), if_neg (by rw [decide_eq_true_eq]; exact c)]
theorem C_lim (h : GS μ t st wl r db) {v : Nat} (hv : v < 8) : ∀ d, d < 1000 → ∀ k a, k + d = t 0 → a ≤ 120 → F_G_borneBy_5 μ (nI v) (nI a) (nI k) = F_G_borneBy_65 μ (nI v) (nI (limF (tD t db) st v r d k a)) (nI 0) := by
  have hn := h.n2
  refine fun d hd => iter_run (fun d (g : Mem → Int32 → Int32 → Int32 → Option Int32) => ∀ k a, k + d = t 0 → a ≤ 120 → g μ (nI v) (nI a) (nI k) = F_G_borneBy_65 μ (nI v) (nI (limF (tD t db) st v r d k a)) (nI 0)) ?_ ?_ NF d (NF_lt hd)
  · intro g k a hk ha
    unfold S_G_borneBy_5
    rw [h.pegs, if_pos ((nI_leI (by omega) (by omega)).mpr (by omega))]
    rfl
  · intro d g ih k a hk ha
    unfold S_G_borneBy_5 limF
    have e0 : tD t db 0 = t 0 := tD_ne (by omega)
    have hsh := shr_le (way (t 0) k r) v
    have hH := h.hold_le (k := k) (by omega)
    rw [h.pegs, if_neg (fun q => by have := (nI_leI (by omega) (by omega)).mp q; omega), C_shareOf h (by omega) hv, bnd_s, hasS h (by omega), bnd_s, C_holds h (by omega), bnd_s, e0]
    simp only [lit, nI_add]
    generalize shr (way (t 0) k r) v = sh at hsh ⊢
    generalize holds (tD t db) st k = H at hH ⊢
    cases st.testBit k with
    | false =>
      rw [if_neg (show ¬ (false = true ∧ 0 < sh) by simp)]
      simp only [Bool.toNat_false, brn0, br0]
      exact ih (k + 1) a (by omega) ha
    | true =>
      simp only [Bool.toNat_true, brn1, br1]
      by_cases c : 0 < sh
      · have c1 : ¬ nI sh ≤ nI 0 := fun q => by have := (nI_leI (by omega) (by omega)).mp q; omega
        have c2 : ¬ nI sh = nI 0 := fun q => by have := (nI_eq (by omega) (by omega)).mp q; omega
        have c2' : ¬ nI sh = 0 := c2
        have hq : (4 * H + 3) / sh ≤ 603 := Nat.le_trans (Nat.div_le_self _ _) (by omega)
        rw [if_neg c1, nmul, nI_add, ndiv (by omega) (by omega), if_pos (show True ∧ 0 < sh from ⟨trivial, c⟩)]
        have e : (if nI ((4 * H + 3) / sh) < nI a then nI ((4 * H + 3) / sh) else nI a) = nI (min ((4 * H + 3) / sh) a) := by
          generalize (4 * H + 3) / sh = q at hq ⊢
          by_cases c3 : q < a
          · rw [if_pos ((nI_ltI (by omega) (by omega)).mpr c3), Nat.min_eq_left (by omega)]
          · rw [if_neg (fun p => c3 ((nI_ltI (by omega) (by omega)).mp p)), Nat.min_eq_right (by omega)]
        first
          | rw [if_neg c2, e]
          | rw [if_neg c2', e]
        exact ih (k + 1) _ (by omega) (Nat.le_trans (Nat.min_le_right _ _) ha)
      · have c1 : nI sh ≤ nI 0 := (nI_leI (by omega) (by omega)).mpr (by omega)
        rw [if_pos c1, if_neg (show ¬ (True ∧ 0 < sh) from fun q => c q.2)]
        exact ih (k + 1) a (by omega) ha
theorem C_borneBy (h : GS μ t st wl r db) {v : Nat} (hv : v < 8) : F_G_borneBy μ (nI v) = some (nI (bv (tD t db) st v r wl)) := by
  have hn := h.n2
  unfold F_G_borneBy
  rw [lit 120, lit 0, C_lim h hv (t 0) (by omega) 0 120 (by omega) (by omega), C_65 h hv (limF_le _ _ _ _ _ _ _) 60 (by omega) 0 rfl]
  unfold bv
  rw [bst_eq 60 0 (fun j hj => ?_)]
  have hs := stg_le (wl := wl) (v := v) (s := j) (by omega)
  have e := limF_iff (tD t db) st v j r wl (t 0) 0 120
  unfold takes
  rw [show tD t db 0 = t 0 from tD_ne (by omega)]
  cases hT : takesF (tD t db) st v j r wl (t 0) 0 with
  | true => exact decide_eq_true (e.mpr ⟨by omega, hT⟩)
  | false => exact decide_eq_false (fun q => by have := (e.mp q).2; rw [hT] at this; cases this)
end BRN
theorem M_takesNow {ν : Mem} {T : Nat → Nat} (h : MS ν T) {v s : Nat} (hv : v < 8) (hs : s ≤ 61) : F_M_takesNoneNow ν (nI v) (nI s) = some (nI (takes T (T 1) v s 0 (T 3)).toNat) := by
  unfold F_M_takesNoneNow
  rw [gd_t (by decide), gd_t (by decide), show (1 : Int32).toNatClampNeg = 1 from rfl, show (3 : Int32).toNatClampNeg = 3 from rfl, h.at 1 (by decide), h.at 3 (by decide), lit 0, M_takes h h.2.st256 hv hs (by omega) h.2.2.2.2.2.1, bnd_s]
  cases takes T (T 1) v s 0 (T 3) <;> rfl
theorem M_bearsBy {ν : Mem} {T : Nat → Nat} (h : MS ν T) {v : Nat} (hv : v < 8) : F_M_bearsBy ν (nI v) = some (nI (bv T (T 1) v 0 (T 3))) := by
  have key : ∀ d, d < 1000 → ∀ i, i + d = 60 → F_M_bearsBy_2 ν (nI v) (nI i) = some (nI (bst (fun s => takes T (T 1) v s 0 (T 3)) d i)) := by
    refine fun d hd => iter_run (fun d (g : Mem → Int32 → Int32 → Option Int32) => ∀ i, i + d = 60 → g ν (nI v) (nI i) = some (nI (bst (fun s => takes T (T 1) v s 0 (T 3)) d i))) ?_ ?_ NF d (NF_lt hd)
    · intro g i hi
      unfold S_M_bearsBy_2
      rw [lit 60, if_pos ((nI_leI (by omega) (by omega)).mpr (by omega))]
      rfl
    · intro d g ih i hi
      unfold S_M_bearsBy_2
      rw [lit 60, if_neg (fun q => by have := (nI_leI (by omega) (by omega)).mp q; omega), lit 1, nI_add, M_takesNow h hv (by omega), bnd_s, ih (i + 1) (by omega)]
      show _ = some (nI (if takes T (T 1) v (i + 1) 0 (T 3) = true then _ else i))
      cases takes T (T 1) v (i + 1) 0 (T 3) <;> rfl
  unfold F_M_bearsBy
  rw [lit 0]
  exact key 60 (by decide) 0 rfl
/-! the weakest way -/
def mn (f : Nat → Nat) : Nat → Nat → Nat → Nat
  | 0, _, a => a
  | d + 1, i, a => mn f d (i + 1) (if f i < a then f i else a)
def wk (f : Nat → Nat) (m : Nat) : Nat → Nat → Int32
  | 0, _ => nI 0 - nI 1
  | d + 1, i => if f i = m then nI i else wk f m d (i + 1)
def am (f : Nat → Nat) : Nat → Nat → Nat → Nat
  | 0, _, b => b
  | d + 1, i, b => am f d (i + 1) (if f b ≤ f i then b else i)
theorem am_spec (f : Nat → Nat) : ∀ d i b, b < i → (∀ j, j < i → f b ≤ f j) → (∀ j, j < b → f b < f j) → am f d i b < i + d ∧ (∀ j, j < i + d → f (am f d i b) ≤ f j) ∧ ∀ j, j < am f d i b → f (am f d i b) < f j := by
  intro d
  induction d with
  | zero => intro i b h1 h2 h3; exact ⟨h1, h2, h3⟩
  | succ d ih =>
    intro i b h1 h2 h3
    show am f d (i + 1) (if f b ≤ f i then b else i) < _ ∧ _
    rw [show i + (d + 1) = (i + 1) + d by omega]
    show _ ∧ (∀ j, j < (i + 1) + d → f (am f d (i + 1) (if f b ≤ f i then b else i)) ≤ f j) ∧ ∀ j, j < am f d (i + 1) (if f b ≤ f i then b else i) → f (am f d (i + 1) (if f b ≤ f i then b else i)) < f j
    by_cases c : f b ≤ f i
    · rw [if_pos c]
      refine ih (i + 1) b (by omega) (fun j hj => ?_) h3
      by_cases e : j = i
      · rw [e]; exact c
      · exact h2 j (by omega)
    · rw [if_neg c]
      refine ih (i + 1) i (by omega) (fun j hj => ?_) (fun j hj => ?_)
      · by_cases e : j = i
        · rw [e]; exact Nat.le_refl _
        · have := h2 j (by omega); omega
      · have := h2 j hj; omega
theorem mn_spec (f : Nat → Nat) : ∀ d i a, mn f d i a ≤ a ∧ (∀ j, i ≤ j → j < i + d → mn f d i a ≤ f j) ∧ (mn f d i a = a ∨ ∃ j, i ≤ j ∧ j < i + d ∧ mn f d i a = f j) := by
  intro d
  induction d with
  | zero => intro i a; exact ⟨Nat.le_refl _, fun j h1 h2 => absurd h2 (by omega), Or.inl rfl⟩
  | succ d ih =>
    intro i a
    obtain ⟨h1, h2, h3⟩ := ih (i + 1) (if f i < a then f i else a)
    have e : mn f (d + 1) i a = mn f d (i + 1) (if f i < a then f i else a) := rfl
    rw [e]
    generalize mn f d (i + 1) (if f i < a then f i else a) = q at h1 h2 h3 ⊢
    have hl : (if f i < a then f i else a) ≤ a ∧ (if f i < a then f i else a) ≤ f i := by split <;> omega
    refine ⟨by omega, fun j g1 g2 => ?_, ?_⟩
    · by_cases c : j = i
      · rw [c]; omega
      · exact h2 j (by omega) (by omega)
    · rcases h3 with h3 | ⟨j, j1, j2, j3⟩
      · by_cases c : f i < a
        · rw [if_pos c] at h3; exact Or.inr ⟨i, by omega, by omega, h3⟩
        · rw [if_neg c] at h3; exact Or.inl h3
      · exact Or.inr ⟨j, by omega, by omega, j3⟩
theorem wk_spec (f : Nat → Nat) (m b : Nat) (hb : f b = m) (hl : ∀ j, j < b → f j ≠ m) : ∀ d i, i ≤ b → b < i + d → wk f m d i = nI b := by
  intro d
  induction d with
  | zero => intro i h1 h2; omega
  | succ d ih =>
    intro i h1 h2
    show (if f i = m then nI i else wk f m d (i + 1)) = nI b
    by_cases c : i = b
    · rw [c, if_pos hb]
    · rw [if_neg (hl i (by omega))]; exact ih (i + 1) (by omega) (by omega)
def wv (f : Nat → Nat) : Nat := am f 7 1 0
theorem wv_spec (f : Nat → Nat) : wv f < 8 ∧ (∀ j, j < 8 → f (wv f) ≤ f j) ∧ ∀ j, j < wv f → f (wv f) < f j :=
  am_spec f 7 1 0 (by decide) (fun j hj => by rw [show j = 0 by omega]; exact Nat.le_refl _) (fun j hj => absurd hj (by omega))
theorem mn_wv (f : Nat → Nat) (h60 : ∀ v, f v ≤ 60) : mn f 8 0 60 = f (wv f) := by
  obtain ⟨a1, a2, a3⟩ := wv_spec f
  obtain ⟨b1, b2, b3⟩ := mn_spec f 8 0 60
  have c1 := b2 (wv f) (by omega) (by omega)
  rcases b3 with b3 | ⟨j, j1, j2, j3⟩
  · have := h60 (wv f); omega
  · have := a2 j (by omega); omega
theorem wk_wv (f : Nat → Nat) (h60 : ∀ v, f v ≤ 60) : wk f (mn f 8 0 60) 8 0 = nI (wv f) := by
  obtain ⟨a1, a2, a3⟩ := wv_spec f
  refine wk_spec f _ (wv f) (mn_wv f h60).symm (fun j hj => ?_) 8 0 (by omega) (by omega)
  have := a3 j hj
  rw [mn_wv f h60]; omega
theorem C_least {μ : Mem} {f : Nat → Nat} (hf : ∀ v, v < 8 → F_G_borneBy μ (nI v) = some (nI (f v))) (h60 : ∀ v, f v ≤ 60) : F_G_leastBorne μ = some (nI (mn f 8 0 60)) := by
  have key : ∀ d, d < 1000 → ∀ i a, i + d = 8 → a ≤ 60 → F_G_leastBorne_5 μ (nI a) (nI i) = some (nI (mn f d i a)) := by
    refine fun d hd => iter_run (fun d (g : Mem → Int32 → Int32 → Option Int32) => ∀ i a, i + d = 8 → a ≤ 60 → g μ (nI a) (nI i) = some (nI (mn f d i a))) ?_ ?_ NF d (NF_lt hd)
    · intro g i a hi ha
      unfold S_G_leastBorne_5
      rw [lit 8, if_pos ((nI_leI (by omega) (by omega)).mpr (by omega))]
      rfl
    · intro d g ih i a hi ha
      unfold S_G_leastBorne_5
      have h6 := h60 i
      rw [lit 8, if_neg (fun q => by have := (nI_leI (by omega) (by omega)).mp q; omega), hf i (by omega), bnd_s, lit 1, nI_add]
      have hl : (if f i < a then f i else a) ≤ 60 := by split <;> omega
      have := ih (i + 1) _ (by omega) hl
      show _ = some (nI (mn f d (i + 1) (if f i < a then f i else a)))
      rw [← this]
      by_cases c : f i < a
      · rw [if_pos ((nI_ltI (by omega) (by omega)).mpr c), if_pos c]
      · rw [if_neg (fun p => c ((nI_ltI (by omega) (by omega)).mp p)), if_neg c]
  unfold F_G_leastBorne
  rw [lit 60, lit 0]
  exact key 8 (by decide) 0 60 rfl (by omega)
theorem C_weakest {μ : Mem} {f : Nat → Nat} (hf : ∀ v, v < 8 → F_G_borneBy μ (nI v) = some (nI (f v))) (h60 : ∀ v, f v ≤ 60) : F_G_weakestWay μ = some (nI (wv f)) := by
  have key : ∀ d, d < 1000 → ∀ i m, i + d = 8 → m ≤ 60 → F_G_weakestWay_7 μ (nI m) (nI i) = some (wk f m d i) := by
    refine fun d hd => iter_run (fun d (g : Mem → Int32 → Int32 → Option Int32) => ∀ i m, i + d = 8 → m ≤ 60 → g μ (nI m) (nI i) = some (wk f m d i)) ?_ ?_ NF d (NF_lt hd)
    · intro g i m hi hm
      unfold S_G_weakestWay_7
      rw [lit 8, if_pos ((nI_leI (by omega) (by omega)).mpr (by omega))]
      rfl
    · intro d g ih i m hi hm
      unfold S_G_weakestWay_7
      have h6 := h60 i
      rw [lit 8, if_neg (fun q => by have := (nI_leI (by omega) (by omega)).mp q; omega), hf i (by omega), bnd_s, lit 1, nI_add, ih (i + 1) m (by omega) hm]
      show _ = some (if f i = m then nI i else wk f m d (i + 1))
      by_cases c : f i = m
      · rw [if_pos (by rw [c]), if_pos c]
      · rw [if_neg (fun p => c ((nI_eq (by omega) (by omega)).mp p)), if_neg c]
  have hm : mn f 8 0 60 ≤ 60 := (mn_spec f 8 0 60).1
  unfold F_G_weakestWay
  rw [C_least hf h60, bnd_s, lit 0, key 8 (by decide) 0 _ rfl hm, wk_wv f h60]
theorem M_least {ν : Mem} {f : Nat → Nat} (hf : ∀ v, v < 8 → F_M_bearsBy ν (nI v) = some (nI (f v))) (h60 : ∀ v, f v ≤ 60) : F_M_leastWay ν = some (nI (wv f)) := by
  have key : ∀ d, d < 1000 → ∀ i b, i + d = 8 → b < 8 → F_M_leastWay_4 ν (nI b) (nI i) = some (nI (am f d i b)) := by
    refine fun d hd => iter_run (fun d (g : Mem → Int32 → Int32 → Option Int32) => ∀ i b, i + d = 8 → b < 8 → g ν (nI b) (nI i) = some (nI (am f d i b))) ?_ ?_ NF d (NF_lt hd)
    · intro g i b hi hb
      unfold S_M_leastWay_4
      rw [lit 8, if_pos ((nI_leI (by omega) (by omega)).mpr (by omega))]
      rfl
    · intro d g ih i b hi hb
      unfold S_M_leastWay_4
      have h6 := h60 i
      have h7 := h60 b
      rw [lit 8, if_neg (fun q => by have := (nI_leI (by omega) (by omega)).mp q; omega), hf i (by omega), bnd_s, hf b hb, bnd_s, lit 1, nI_add, ih (i + 1) b (by omega) hb, ih (i + 1) i (by omega) (by omega)]
      show _ = some (nI (am f d (i + 1) (if f b ≤ f i then b else i)))
      by_cases c : f b ≤ f i
      · rw [if_pos ((nI_leI (by omega) (by omega)).mpr c), if_pos c]
      · rw [if_neg (fun p => c ((nI_leI (by omega) (by omega)).mp p)), if_neg c]
  unfold F_M_leastWay
  rw [lit 0, lit 1]
  exact key 7 (by decide) 1 0 rfl (by omega)
theorem ok_bears {μ ν : Mem} (h : Rel μ ν) (x : Int32) : okI Rel (F_T_bears μ x) (F_M_bears ν x) := by
  obtain ⟨t, f1, f2, f3⟩ := h.1
  have hm : MS (stI ν 0 0 0) t := start_ms ⟨f3, f1⟩
  obtain ⟨m, a1, a2, a3, a4⟩ := C_asItIs f2 f1
  have hC : ∀ v, v < 8 → F_G_borneBy m (nI v) = some (nI (bv t (t 1) v 0 (t 3))) := fun v hv => by
    have := C_borneBy a2 hv; rw [tD_0] at this; exact this
  have hM : ∀ v, v < 8 → F_M_bearsBy (stI ν 0 0 0) (nI v) = some (nI (bv t (t 1) v 0 (t 3))) := fun v hv => M_bearsBy hm hv
  unfold F_T_bears F_M_bears F_M_bears_22
  by_cases c : x = -1
  · rw [if_pos c, if_pos c, if_pos c, a1, bnd_s, C_weakest hC (fun v => bv_le _ _ _ _ _), M_least hM (fun v => bv_le _ _ _ _ _)]
    exact ok_same h (SC.of7 a3) (SM.st0 ν) rfl
  · rw [if_neg c, if_neg c, if_neg c]
    rcases dWay x with ⟨v, hv, e, h1, h2⟩ | ⟨h1, h2⟩
    · rw [h1, h2, e, a1]
      simp only [bnd_s, br0, br1]
      rw [hC v hv, hM v hv]
      exact ok_same h (SC.of7 a3) (SM.st0 ν) rfl
    · rw [h1, h2]
      simp only [bnd_s, br0, br1, T_bad, M_badTen]
      exact ok_bad h (SC.rf μ) (SM.st0 ν) _
