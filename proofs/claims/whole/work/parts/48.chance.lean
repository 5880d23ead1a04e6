/-! Pure part (19): chances. -/
def go (t : Nat → Nat) (s r wl : Nat) : Nat := fN (fun v => if takes t (t 1) v s r wl then t (29 + v) else 0) 8 0 0
def tot (t : Nat → Nat) : Nat := fN (fun v => t (29 + v)) 8 0 0
theorem go_le {t : Nat → Nat} (w : Wf t) (s r wl : Nat) : go t s r wl ≤ 160 := by
  have := fN_le (fun v => if takes t (t 1) v s r wl then t (29 + v) else 0) 20 8 (fun k hk => by
    show (if takes t (t 1) k s r wl then t (29 + k) else 0) ≤ 20
    have := w.2.2.2.2.2.2.2.2.2.1 k hk
    split <;> omega) 8 0 0 (by decide)
  unfold go; omega
theorem tot_le {t : Nat → Nat} (w : Wf t) : tot t ≤ 160 := by
  have := fN_le (fun v => t (29 + v)) 20 8 (fun k hk => w.2.2.2.2.2.2.2.2.2.1 k hk) 8 0 0 (by decide)
  unfold tot; omega
theorem C_harm {μ : Mem} {t : Nat → Nat} {wl r : Nat} (h : GS μ t (t 1) wl r 0) {s : Nat} (hs : s ≤ 61) : F_G_harmless μ (nI s) = some (nI (go t s r wl)) := by
  have key : ∀ d, d < 1000 → ∀ i a, i + d = 8 → F_G_harmless_4 μ (nI s) (nI a) (nI i) = some (nI (fN (fun v => if takes t (t 1) v s r wl then t (29 + v) else 0) d i a)) := by
    refine fun d hd => iter_run (fun d (g : Mem → Int32 → Int32 → Int32 → Option Int32) => ∀ i a, i + d = 8 → g μ (nI s) (nI a) (nI i) = some (nI (fN (fun v => if takes t (t 1) v s r wl then t (29 + v) else 0) d i a))) ?_ ?_ NF d (NF_lt hd)
    · intro g i a hi
      unfold S_G_harmless_4
      rw [lit 8, if_pos ((nI_leI (by omega) (by omega)).mpr (by omega))]
      rfl
    · intro d g ih i a hi
      unfold S_G_harmless_4
      rw [lit 8, if_neg (fun q => by have := (nI_leI (by omega) (by omega)).mp q; omega), C_takes h (by omega) hs, bnd_s, tD_0, gd_nI (by omega) (by decide), nclamp (by omega), show μ.1 5 i = nI (t (29 + i)) from h.1.2.2.2.2.1 i (by omega), nI_add, lit 1, nI_add, ih (i + 1) _ (by omega), ih (i + 1) _ (by omega)]
      show _ = some (nI (fN (fun v => if takes t (t 1) v s r wl then t (29 + v) else 0) d (i + 1) (a + (if takes t (t 1) i s r wl then t (29 + i) else 0))))
      cases takes t (t 1) i s r wl
      · rw [if_pos (by decide)]; rfl
      · rw [if_neg (by decide)]; rfl
  unfold F_G_harmless
  rw [lit 0]
  exact key 8 (by decide) 0 0 rfl
theorem M_good {ν : Mem} {t : Nat → Nat} (h : MS ν t) {s r wl : Nat} (hs : s ≤ 61) (hr : r < 8) (hw : wl < 256) : F_M_goodOdds ν (nI s) (nI r) (nI wl) = some (nI (go t s r wl)) := by
  have key : ∀ d, d < 1000 → ∀ i a, i + d = 8 → F_M_goodOdds_6 ν (nI s) (nI r) (nI wl) (nI a) (nI i) = some (nI (fN (fun v => if takes t (t 1) v s r wl then t (29 + v) else 0) d i a)) := by
    refine fun d hd => iter_run (fun d (g : Mem → Int32 → Int32 → Int32 → Int32 → Int32 → Option Int32) => ∀ i a, i + d = 8 → g ν (nI s) (nI r) (nI wl) (nI a) (nI i) = some (nI (fN (fun v => if takes t (t 1) v s r wl then t (29 + v) else 0) d i a))) ?_ ?_ NF d (NF_lt hd)
    · intro g i a hi
      unfold S_M_goodOdds_6
      rw [lit 8, if_pos ((nI_leI (by omega) (by omega)).mpr (by omega))]
      rfl
    · intro d g ih i a hi
      unfold S_M_goodOdds_6
      rw [lit 8, if_neg (fun q => by have := (nI_leI (by omega) (by omega)).mp q; omega), gd_t (by decide), show (1 : Int32).toNatClampNeg = 1 from rfl, h.at 1 (by decide), M_takes h h.2.st256 (by omega) hs hr hw, bnd_s, lit 29, nI_add, gd_nI (by omega) (by decide), nclamp (by omega), h.at (29 + i) (by omega), show (0 : Int32) = nI 0 from lit 0, nI_add, nI_add, lit 1, nI_add, ih (i + 1) _ (by omega), ih (i + 1) _ (by omega)]
      show _ = some (nI (fN (fun v => if takes t (t 1) v s r wl then t (29 + v) else 0) d (i + 1) (a + (if takes t (t 1) i s r wl then t (29 + i) else 0))))
      cases takes t (t 1) i s r wl
      · rw [if_pos (by decide)]; rfl
      · rw [if_neg (by decide)]; rfl
  unfold F_M_goodOdds
  rw [lit 0]
  exact key 8 (by decide) 0 0 rfl
theorem C_tot {φ : Mem} {t : Nat → Nat} (h : CF φ 0 t) : F_F_allChances φ = some (nI (tot t)) := by
  have key : ∀ d, d < 1000 → ∀ i a, i + d = 8 → F_F_allChances_4 φ (nI a) (nI i) = some (nI (fN (fun v => t (29 + v)) d i a)) := by
    refine fun d hd => iter_run (fun d (g : Mem → Int32 → Int32 → Option Int32) => ∀ i a, i + d = 8 → g φ (nI a) (nI i) = some (nI (fN (fun v => t (29 + v)) d i a))) ?_ ?_ NF d (NF_lt hd)
    · intro g i a hi
      unfold S_F_allChances_4
      rw [lit 8, if_pos ((nI_leI (by omega) (by omega)).mpr (by omega))]
      rfl
    · intro d g ih i a hi
      unfold S_F_allChances_4
      rw [lit 8, if_neg (fun q => by have := (nI_leI (by omega) (by omega)).mp q; omega), gd_nI (by omega) (by decide), nclamp (by omega), show φ.1 4 i = nI (t (29 + i)) from h.2.2.2.2.1 i (by omega), nI_add, lit 1, nI_add, ih (i + 1) _ (by omega)]
      rfl
  unfold F_F_allChances
  rw [lit 0]
  exact key 8 (by decide) 0 0 rfl
theorem M_tot {ν : Mem} {t : Nat → Nat} (h : MS ν t) : F_M_allOdds ν = some (nI (tot t)) := by
  have key : ∀ d, d < 1000 → ∀ i a, i + d = 8 → F_M_allOdds_4 ν (nI a) (nI i) = some (nI (fN (fun v => t (29 + v)) d i a)) := by
    refine fun d hd => iter_run (fun d (g : Mem → Int32 → Int32 → Option Int32) => ∀ i a, i + d = 8 → g ν (nI a) (nI i) = some (nI (fN (fun v => t (29 + v)) d i a))) ?_ ?_ NF d (NF_lt hd)
    · intro g i a hi
      unfold S_M_allOdds_4
      rw [lit 8, if_pos ((nI_leI (by omega) (by omega)).mpr (by omega))]
      rfl
    · intro d g ih i a hi
      unfold S_M_allOdds_4
      rw [lit 8, if_neg (fun q => by have := (nI_leI (by omega) (by omega)).mp q; omega), lit 29, nI_add, gd_nI (by omega) (by decide), nclamp (by omega), h.at (29 + i) (by omega), nI_add, lit 1, nI_add, ih (i + 1) _ (by omega)]
      rfl
  unfold F_M_allOdds
  rw [lit 0]
  exact key 8 (by decide) 0 0 rfl
theorem tot_ne {t : Nat → Nat} (w : Wf t) (h : ¬ tot t = 0) : ¬ nI (tot t) = 0 := fun q => h ((nI_eq (b := 0) (by have := tot_le w; omega) (by omega)).mp q)
theorem ok_chance {μ ν : Mem} (h : Rel μ ν) (x : Int32) : okI Rel (F_T_chance μ x) (F_M_chance ν x) := by
  obtain ⟨t, f1, f2, f3⟩ := h.1
  have hm : MS (stI ν 0 0 0) t := start_ms ⟨f3, f1⟩
  unfold F_T_chance F_M_chance
  rcases dStr x with ⟨s, hs, e, h1, h2⟩ | ⟨h1, h2⟩
  · rw [h1, show F_M_in x.toInt64 0 60 = some (nI 1) from h2, e, C_tot f2.sub, M_tot hm]
    simp only [bnd_s, br0, br1]
    by_cases c : tot t = 0
    · rw [if_pos (by rw [c]; rfl), if_pos (by rw [c]; rfl), T_no, M_no]
      exact ok_no h (SC.rf μ) (SM.st0 ν) _
    · obtain ⟨m, a1, a2, a3, a4⟩ := C_asItIs f2 f1
      rw [if_neg (tot_ne f1 c), if_neg (tot_ne f1 c), a1, bnd_s, C_harm a2 (by omega), bnd_s, gd_t (by decide), show ν.1 2 (3 : Int32).toNatClampNeg = nI (t 3) from f3 3 (by decide), show F_M_goodOdds (stI ν 0 0 0) (nI s) 0 (nI (t 3)) = _ from M_good hm (show s ≤ 61 by omega) (show 0 < 8 by decide) f1.2.2.2.2.1, bnd_s]
      exact ok_frac h (SC.of7 a3) (SM.st0 ν) (b := false) (by have := go_le f1 s 0 (t 3); omega) (by omega) (by have := tot_le f1; omega) 1
  · rw [h1, show F_M_in x.toInt64 0 60 = some (nI 0) from h2]
    simp only [bnd_s, br0, br1, T_bad, M_bad]
    exact ok_bad h (SC.rf μ) (SM.st0 ν) _
theorem GS.wall {μ : Mem} {t : Nat → Nat} {st wl r db wl' : Nat} (h : GS μ t st wl r db) (hw : wl' < 256) : GS (stI μ 7 5 (nI wl')) t st wl' r db := by
  obtain ⟨b1, b2, b3, b4, b5, b6, b7, b8, b9, b10⟩ := h
  exact ⟨b1.keep (fun j q r => stI_ne _ _ _ (by omega)), b2, b3, hw, b5, b6, by rw [stI_same, upd_ne _ _ (by decide)]; exact b7, by rw [stI_same, upd_same], by rw [stI_same, upd_ne _ _ (by decide)]; exact b9, by rw [stI_same, upd_ne _ _ (by decide)]; exact b10⟩
theorem GS.turn {μ : Mem} {t : Nat → Nat} {st wl r db r' : Nat} (h : GS μ t st wl r db) (hw : r' < 8) : GS (stI μ 7 6 (nI r')) t st wl r' db := by
  obtain ⟨b1, b2, b3, b4, b5, b6, b7, b8, b9, b10⟩ := h
  exact ⟨b1.keep (fun j q r => stI_ne _ _ _ (by omega)), b2, b3, b4, hw, b6, by rw [stI_same, upd_ne _ _ (by decide)]; exact b7, by rw [stI_same, upd_ne _ _ (by decide)]; exact b8, by rw [stI_same, upd_same], by rw [stI_same, upd_ne _ _ (by decide)]; exact b10⟩
theorem GS.doub {μ : Mem} {t : Nat → Nat} {st wl r db db' : Nat} (h : GS μ t st wl r db) (hw : db' < 256) : GS (stI μ 7 7 (nI db')) t st wl r db' := by
  obtain ⟨b1, b2, b3, b4, b5, b6, b7, b8, b9, b10⟩ := h
  exact ⟨b1.keep (fun j q r => stI_ne _ _ _ (by omega)), b2, b3, b4, b5, hw, by rw [stI_same, upd_ne _ _ (by decide)]; exact b7, by rw [stI_same, upd_ne _ _ (by decide)]; exact b8, by rw [stI_same, upd_ne _ _ (by decide)]; exact b9, by rw [stI_same, upd_same]⟩
theorem dif_sI (p q : Nat) : ∃ b a, nI p - nI q = sI b a ∧ a ≤ max p q := by
  by_cases c : q ≤ p
  · exact ⟨false, p - q, nsub c, by omega⟩
  · refine ⟨true, q - p, ?_, by omega⟩
    show nI p - nI q = -nI (q - p)
    rw [← nsub (by omega), Int32.neg_sub]
theorem ok_worth {μ ν : Mem} (h : Rel μ ν) (x y : Int32) : okI Rel (F_T_worth μ x y) (F_M_worth ν x y) := by
  obtain ⟨t, f1, f2, f3⟩ := h.1
  have hm : MS (stI ν 0 0 0) t := start_ms ⟨f3, f1⟩
  unfold F_T_worth F_M_worth
  rcases dGust x y with ⟨v, s, hv, hs, e1, e2, h1, h2⟩ | ⟨h1, h2⟩
  · rw [h1, h2, e1, e2, C_tot f2.sub, M_tot hm]
    simp only [bnd_s, br0, br1]
    by_cases c : tot t = 0
    · rw [if_pos (by rw [c]; rfl), if_pos (by rw [c]; rfl), T_no, M_no]
      exact ok_no h (SC.rf μ) (SM.st0 ν) _
    · obtain ⟨m, a1, a2, a3, a4⟩ := C_asItIs f2 f1
      have h3 : t 3 < 256 := f1.2.2.2.2.1
      have a5 := GS.wall a2 (wl' := sett (t 3) v) (sett_lt _ h3 _ hv)
      have w5 : m.1 7 5 = nI (t 3) := a2.2.2.2.2.2.2.2.1
      have w1 : F_T_with (nI (t 3)) (nI v) 1 = some (nI (sett (t 3) v)) := with1 _ h3 _ hv
      rw [if_neg (tot_ne f1 c), if_neg (tot_ne f1 c), a1, bnd_s, C_harm a2 (by omega), bnd_s, w5, w1, bnd_s, C_harm a5 (by omega), bnd_s, gd_t (by decide), show ν.1 2 (3 : Int32).toNatClampNeg = nI (t 3) from f3 3 (by decide), orM _ h3 _ hv, show F_M_goodOdds (stI ν 0 0 0) (nI s) 0 (nI (sett (t 3) v)) = _ from M_good hm (show s ≤ 61 by omega) (show 0 < 8 by decide) (sett_lt _ h3 _ hv), bnd_s, gd_t (by decide), show F_M_goodOdds (stI ν 0 0 0) (nI s) 0 (nI (t 3)) = _ from M_good hm (show s ≤ 61 by omega) (show 0 < 8 by decide) h3, bnd_s]
      obtain ⟨b, a, e, ha⟩ := dif_sI (go t s 0 (sett (t 3) v)) (go t s 0 (t 3))
      have g1 := go_le f1 s 0 (sett (t 3) v)
      have g2 := go_le f1 s 0 (t 3)
      rw [e]
      exact ok_frac h ((SC.of7 a3).tr (SC.st (by omega))) (SM.st0 ν) (by omega) (by omega) (by have := tot_le f1; omega) 1
  · rw [h1, h2]
    simp only [bnd_s, br0, br1, T_bad, M_bad]
    exact ok_bad h (SC.rf μ) (SM.st0 ν) _
/-! the best turn -/
def btp (f : Nat → Nat) : Nat → Nat → Nat → Int32 → Nat × Int32
  | 0, _, b, y => (b, y)
  | d + 1, i, b, y => if nI (f i) ≤ y then btp f d (i + 1) b y else btp f d (i + 1) i (nI (f i))
theorem btp_ok (f : Nat → Nat) : ∀ d i b, b < 8 → i + d ≤ 8 → (btp f d i b (nI (f b))).1 < 8 ∧ (btp f d i b (nI (f b))).2 = nI (f (btp f d i b (nI (f b))).1) := by
  intro d
  induction d with
  | zero => intro i b hb _; exact ⟨hb, rfl⟩
  | succ d ih =>
    intro i b hb hi
    show (if nI (f i) ≤ nI (f b) then btp f d (i + 1) b (nI (f b)) else btp f d (i + 1) i (nI (f i))).1 < 8 ∧ (if nI (f i) ≤ nI (f b) then btp f d (i + 1) b (nI (f b)) else btp f d (i + 1) i (nI (f i))).2 = nI (f (if nI (f i) ≤ nI (f b) then btp f d (i + 1) b (nI (f b)) else btp f d (i + 1) i (nI (f i))).1)
    by_cases c : nI (f i) ≤ nI (f b)
    · rw [if_pos c]; exact ih _ _ hb (by omega)
    · rw [if_neg c]; exact ih _ _ (by omega) (by omega)
theorem btp_top (f : Nat → Nat) (hf : f 0 ≤ 160) : (btp f 8 0 0 (-1)).1 < 8 ∧ (btp f 8 0 0 (-1)).2 = nI (f (btp f 8 0 0 (-1)).1) := by
  have e : btp f 8 0 0 (-1) = btp f 7 1 0 (nI (f 0)) := by
    show (if nI (f 0) ≤ -1 then _ else btp f 7 1 0 (nI (f 0))) = _
    rw [if_neg (fun q => by
      have := Int32.le_iff_toInt_le.mp q
      rw [nI_toInt (by omega), show (-1 : Int32).toInt = -1 from by decide] at this
      omega)]
  rw [e]
  exact btp_ok f 7 1 0 (by decide) (by decide)
theorem C_turn {t : Nat → Nat} {s : Nat} (hs : s ≤ 61) : ∀ d, d < 1000 → ∀ (μ : Mem) r i b y, GS μ t (t 1) (t 3) r 0 → i + d = 8 → ∃ m r', F_P_bestTurn_7 μ (nI s) (nI b) y (nI i) = some (nI (btp (fun r => go t s r (t 3)) d i b y).1, m) ∧ GS m t (t 1) (t 3) r' 0 ∧ ∀ k, k ≠ 7 → m.1 k = μ.1 k := by
  refine fun d hd => iter_run (fun d (g : Mem → Int32 → Int32 → Int32 → Int32 → Option (Int32 × Mem)) => ∀ (μ : Mem) r i b y, GS μ t (t 1) (t 3) r 0 → i + d = 8 → ∃ m r', g μ (nI s) (nI b) y (nI i) = some (nI (btp (fun r => go t s r (t 3)) d i b y).1, m) ∧ GS m t (t 1) (t 3) r' 0 ∧ ∀ k, k ≠ 7 → m.1 k = μ.1 k) ?_ ?_ NF d (NF_lt hd)
  · intro g μ r i b y h hi
    unfold S_P_bestTurn_7
    rw [lit 8, if_pos ((nI_leI (by omega) (by omega)).mpr (by omega))]
    exact ⟨μ, r, rfl, h, fun _ _ => rfl⟩
  · intro d g ih μ r i b y h hi
    unfold S_P_bestTurn_7
    have h2 := GS.turn h (r' := i) (by omega)
    rw [lit 8, if_neg (fun q => by have := (nI_leI (by omega) (by omega)).mp q; omega), C_harm h2 hs, bnd_s, lit 1, nI_add]
    show ∃ m r', _ = some (nI (if nI (go t s i (t 3)) ≤ y then btp (fun r => go t s r (t 3)) d (i + 1) b y else btp (fun r => go t s r (t 3)) d (i + 1) i (nI (go t s i (t 3)))).1, m) ∧ _
    by_cases c : nI (go t s i (t 3)) ≤ y
    · rw [if_pos c, if_pos c]
      obtain ⟨m, r', e1, e2, e3⟩ := ih _ i (i + 1) b y h2 (by omega)
      exact ⟨m, r', e1, e2, fun k q => by rw [e3 k q, stI_ne _ _ _ q]⟩
    · rw [if_neg c, if_neg c]
      obtain ⟨m, r', e1, e2, e3⟩ := ih _ i (i + 1) i _ h2 (by omega)
      exact ⟨m, r', e1, e2, fun k q => by rw [e3 k q, stI_ne _ _ _ q]⟩
theorem M_turn {ν : Mem} {t : Nat → Nat} (h : MS ν t) {s : Nat} (hs : s ≤ 61) : ∀ d, d < 1000 → ∀ i b y, i + d = 8 → F_M_turn_41 ν (nI s) (nI b) y (nI i) = bnd (F_M_setPart ν (btp (fun r => go t s r (t 3)) d i b y).2 (nI (tot t))) (fun q => some (nI (btp (fun r => go t s r (t 3)) d i b y).1, q)) := by
  refine fun d hd => iter_run (fun d (g : Mem → Int32 → Int32 → Int32 → Int32 → Option (Int32 × Mem)) => ∀ i b y, i + d = 8 → g ν (nI s) (nI b) y (nI i) = bnd (F_M_setPart ν (btp (fun r => go t s r (t 3)) d i b y).2 (nI (tot t))) (fun q => some (nI (btp (fun r => go t s r (t 3)) d i b y).1, q))) ?_ ?_ NF d (NF_lt hd)
  · intro g i b y hi
    unfold S_M_turn_41
    rw [lit 8, if_pos ((nI_leI (by omega) (by omega)).mpr (by omega)), M_tot h, bnd_s]
    rfl
  · intro d g ih i b y hi
    unfold S_M_turn_41 F_M_turn_75
    rw [lit 8, if_neg (fun q => by have := (nI_leI (by omega) (by omega)).mp q; omega), gd_t (by decide), show (3 : Int32).toNatClampNeg = 3 from rfl, h.at 3 (by decide), M_good h hs (by omega) h.2.2.2.2.2.1, bnd_s, lit 1, nI_add]
    show _ = bnd (F_M_setPart ν (if nI (go t s i (t 3)) ≤ y then btp (fun r => go t s r (t 3)) d (i + 1) b y else btp (fun r => go t s r (t 3)) d (i + 1) i (nI (go t s i (t 3)))).2 (nI (tot t))) (fun q => some (nI (if nI (go t s i (t 3)) ≤ y then btp (fun r => go t s r (t 3)) d (i + 1) b y else btp (fun r => go t s r (t 3)) d (i + 1) i (nI (go t s i (t 3)))).1, q))
    by_cases c : nI (go t s i (t 3)) ≤ y
    · rw [if_pos c, if_pos c, if_pos c]; exact ih (i + 1) b y (by omega)
    · rw [if_neg c, if_neg c, if_neg c]; exact ih (i + 1) i _ (by omega)
theorem ok_turn {μ ν : Mem} (h : Rel μ ν) (x : Int32) : okI Rel (F_T_turn μ x) (F_M_turn ν x) := by
  obtain ⟨t, f1, f2, f3⟩ := h.1
  have hm : MS (stI ν 0 0 0) t := start_ms ⟨f3, f1⟩
  unfold F_T_turn F_M_turn
  rcases dStr x with ⟨s, hs, e, h1, h2⟩ | ⟨h1, h2⟩
  · rw [h1, show F_M_in x.toInt64 0 60 = some (nI 1) from h2, e, C_tot f2.sub, M_tot hm]
    simp only [bnd_s, br0, br1]
    by_cases c : tot t = 0
    · rw [if_pos (by rw [c]; rfl), if_pos (by rw [c]; rfl), T_no, M_no]
      exact ok_no h (SC.rf μ) (SM.st0 ν) _
    · obtain ⟨m, a1, a2, a3, a4⟩ := C_asItIs f2 f1
      obtain ⟨m1, r', b1, b2, b3⟩ := C_turn (t := t) (s := s) (by omega) 8 (by decide) m 0 0 0 (-1) a2 rfl
      have tp := btp_top (fun r => go t s r (t 3)) (go_le f1 s 0 (t 3))
      rw [if_neg (tot_ne f1 c), if_neg (tot_ne f1 c), a1, bnd_s, show F_P_bestTurn m (nI s) = _ from b1, bnd_s, show F_M_turn_41 (stI ν 0 0 0) (nI s) 0 (-1) 0 = _ from M_turn hm (show s ≤ 61 by omega) 8 (by decide) 0 0 (-1) rfl]
      generalize btp (fun r => go t s r (t 3)) 8 0 0 (-1) = bp at tp
      obtain ⟨b, y⟩ := bp
      obtain ⟨t1, t2⟩ := tp
      have t2' : y = nI (go t s b (t 3)) := t2
      have b5 := GS.turn b2 (r' := b) t1
      show okI Rel (bnd (F_G_harmless (stI m1 7 6 (nI b)) (nI s)) _) (bnd (F_M_setPart (stI ν 0 0 0) y (nI (tot t))) _)
      rw [C_harm b5 (by omega), bnd_s, t2']
      exact ok_frac h ((SC.of7 a3).tr ((SC.of7 b3).tr (SC.st (by omega)))) (SM.st0 ν) (b := false) (by have := go_le f1 s b (t 3); omega) (by omega) (by have := tot_le f1; omega) (nI b)
  · rw [h1, show F_M_in x.toInt64 0 60 = some (nI 0) from h2]
    simp only [bnd_s, br0, br1, T_bad, M_bad]
    exact ok_bad h (SC.rf μ) (SM.st0 ν) _
