/-! Pure part (22): night, wake. -/
theorem dNight (x y z : Int32) : (∃ m s c, m ≤ 60 ∧ s ≤ 60 ∧ c ≤ 999999 ∧ x = nI m ∧ y = nI s ∧ z = nI c ∧ F_T_isNight x y z = some (nI 1) ∧ F_M_noNight x y z = some (nI 0)) ∨ (F_T_isNight x y z = some (nI 0) ∧ F_M_noNight x y z = some (nI 1)) := by
  unfold F_T_isNight F_M_noNight
  simp only [lit, litL]
  rcases dich x 0 60 (by decide) (by decide) with ⟨m, _, hm, e1, h1, h2⟩ | ⟨h1, h2⟩
  · rcases dStr y with ⟨s, hs, e2, h3, h4⟩ | ⟨h3, h4⟩
    · rcases dich z 0 999999 (by decide) (by decide) with ⟨c, _, hc, e3, h5, h6⟩ | ⟨h5, h6⟩
      · left; rw [h1, h2, h3, h4, h5, h6]; exact ⟨m, s, c, hm, hs, hc, e1, e2, e3, rfl, rfl⟩
      · right; rw [h1, h2, h3, h4, h5, h6]; exact ⟨rfl, rfl⟩
    · right; rw [h1, h2, h3, h4]; exact ⟨rfl, rfl⟩
  · right; rw [h1, h2]; exact ⟨rfl, rfl⟩
theorem C_pass {μ : Mem} {t : Nat → Nat} (h : GB μ t (t 1)) {m s c : Nat} (hm : m ≤ 60) (hs : s ≤ 60) (hc : c ≤ 999999) : ∃ m1, F_P_passNight μ (nI m) (nI s) (nI c) = some ((nt t s (-1) m 0 c (t 1) (-1)).1, m1) ∧ GB m1 t (nt t s (-1) m 0 c (t 1) (-1)).2 ∧ SC μ m1 := by
  obtain ⟨m1, e1, e2, e3⟩ := C_night hm hs m (by omega) μ (t 1) 0 c (-1) (t 1) h rfl (by omega) (by omega)
  refine ⟨m1, ?_, e2, e3⟩
  unfold F_P_passNight
  rw [GS.stn h, lostC h.2.1.st256, bnd_s, nI_l (by omega), ← e1]
  unfold chk
  rw [if_pos rfl]
  by_cases c2 : 2 ≤ pc (t 1)
  · rw [if_pos c2, if_pos c2, br0]; rfl
  · rw [if_neg c2, if_neg c2, br1]; rfl
theorem M_nightOf {ν : Mem} {t : Nat → Nat} (h : MS ν t) {m s c : Nat} (hm : m ≤ 60) (hs : s ≤ 60) (hc : c ≤ 999999) (kk : Int32) : ∃ ν1, F_M_nightOf ν (nI m) (nI s) (nI c) kk = some (nI (nt t s kk m 0 c (t 1) (-1)).2, ν1) ∧ ν1.1 0 21 = (nt t s kk m 0 c (t 1) (-1)).1 ∧ MS ν1 t ∧ SM ν ν1 := by
  have hA : MS (stI (stL ν 20 (lN c)) 0 21 (-1)) t := (h.stL).stI (by decide)
  have sA : SM ν (stI (stL ν 20 (lN c)) 0 21 (-1)) := (SM.l (by omega)).tr (SM.s0 (by decide))
  have lA : (stI (stL ν 20 (lN c)) 0 21 (-1)).1 0 21 = -1 := by rw [stI_same, upd_same]
  have zA : (stI (stL ν 20 (lN c)) 0 21 (-1)).2 20 = lN c := by rw [stI_2, stL_2, if_pos rfl]
  obtain ⟨ν1, e1, e2, e3, e4⟩ := M_night hm hs kk (m + 1) (by omega) _ 0 c (t 1) hA h.2.2.2.1 zA (by omega) (by omega)
  rw [lA] at e1 e2
  refine ⟨ν1, ?_, e2, e3, sA.tr e4⟩
  unfold F_M_nightOf
  rw [gd_t (by decide), show (1 : Int32).toNatClampNeg = 1 from rfl, h.at 1 (by decide), nI_l (by omega), lit 0]
  exact e1
theorem ok_night {μ ν : Mem} (h : Rel μ ν) (x y z o : Int32) : okI Rel (F_T_night μ x y z o) (F_M_night ν x y z o) := by
  obtain ⟨t, f1, f2, f3⟩ := h.1
  have hm : MS (stI ν 0 0 0) t := start_ms ⟨f3, f1⟩
  unfold F_T_night F_M_night F_T_night_19 F_M_night_25
  rcases dNight x y z with ⟨m, s, c, h6, hs, hc, e1, e2, e3, h1, h2⟩ | ⟨h1, h2⟩
  · rcases dich o 0 1 (by decide) (by decide) with ⟨j, _, hj, e4, h3, h4⟩ | ⟨h3, h4⟩
    · obtain ⟨m1, a1, a2, a3, a4⟩ := C_asItIs f2 f1
      obtain ⟨m2, b1, b2, b3⟩ := C_pass a2 h6 hs hc
      obtain ⟨ν1, g1, g2, g3, g4⟩ := M_nightOf hm h6 hs hc (-1)
      have hsc : SC μ m2 := (SC.of7 a3).tr b3
      have hsm : SM ν ν1 := (SM.st0 ν).tr g4
      have h256 := GS.st256 b2
      rw [h1, h2, show F_T_within o 0 1 = some (nI 1) from h3, show F_M_in o.toInt64 0 1 = some (nI 1) from h4, e1, e2, e3]
      simp only [bnd_s, br0, br1]
      rw [a1, bnd_s, b1, bnd_s, g1, bnd_s]
      show okI Rel (if o = 0 then some ((nt t s (-1) m 0 c (t 1) (-1)).1, m2) else bnd (F_JI_bitCount (m2.1 7 4)) (fun r5 => some (r5, m2))) (if o = 0 then some (ν1.1 0 21, ν1) else bnd (F_M_bits (nI (nt t s (-1) m 0 c (t 1) (-1)).2)) (fun r4 => some (r4, ν1)))
      rw [g2, GS.stn b2, pcT _ h256, pcM _ h256, bnd_s, bnd_s]
      by_cases c0 : o = 0
      · rw [if_pos c0, if_pos c0]; exact ok_same h hsc hsm rfl
      · rw [if_neg c0, if_neg c0]; exact ok_same h hsc hsm rfl
    · rw [h1, h2, show F_T_within o 0 1 = some (nI 0) from h3, show F_M_in o.toInt64 0 1 = some (nI 0) from h4]
      simp only [bnd_s, br0, br1, T_bad, M_badTen]
      exact ok_bad h (SC.rf μ) (SM.st0 ν) _
  · rw [h1, h2]
    simp only [bnd_s, br0, br1, T_bad, M_badTen]
    exact ok_bad h (SC.rf μ) (SM.st0 ν) _
theorem nt_full {t : Nat → Nat} {s m : Nat} (hm : m ≤ 60) : ∀ d i z st l, i + d = m → (nt t s (nI m) d i z st l).2 = 2 ^ t 0 - 1 := by
  intro d
  induction d with
  | zero => intro i z st l hi; exact if_pos (by rw [show i = m by omega])
  | succ d ih => intro i z st l hi; exact ih _ _ _ _ (by omega)
theorem pc_full : ∀ n, n < 9 → pc (2 ^ n - 1) = n := by decide +kernel
theorem M_wk {t : Nat → Nat} {m s c : Nat} (hm : m ≤ 60) (hs : s ≤ 60) (hc : c ≤ 999999) : ∀ d, d < 1000 → ∀ (ν : Mem) (i b : Nat) (y : Int32), MS ν t → i + d = m + 1 → b ≤ t 0 → ((b = t 0 ∧ y = -1) → ∃ ν1, F_M_wake_38 ν (nI m) (nI s) (nI c) (nI b) y (nI i) = some (-1, ν1) ∧ SM ν ν1) ∧ ((i ≤ m → y = -1 → b < t 0) → (i = m + 1 → y = nI m) → ∃ ν1, F_M_wake_38 ν (nI m) (nI s) (nI c) (nI b) y (nI i) = some (nI m, ν1) ∧ SM ν ν1) := by
  refine fun d hd => iter_run (fun d (g : Mem → Int32 → Int32 → Int32 → Int32 → Int32 → Int32 → Option (Int32 × Mem)) => ∀ (ν : Mem) (i b : Nat) (y : Int32), MS ν t → i + d = m + 1 → b ≤ t 0 → ((b = t 0 ∧ y = -1) → ∃ ν1, g ν (nI m) (nI s) (nI c) (nI b) y (nI i) = some (-1, ν1) ∧ SM ν ν1) ∧ ((i ≤ m → y = -1 → b < t 0) → (i = m + 1 → y = nI m) → ∃ ν1, g ν (nI m) (nI s) (nI c) (nI b) y (nI i) = some (nI m, ν1) ∧ SM ν ν1)) ?_ ?_ NF d (NF_lt hd)
  · intro g ν i b y h hi hb
    unfold S_M_wake_38
    rw [if_pos ((nI_ltI (by omega) (by omega)).mpr (by omega))]
    exact ⟨fun q => ⟨ν, by rw [q.2], SM.rf ν⟩, fun _ q => ⟨ν, by rw [q (by omega)], SM.rf ν⟩⟩
  · intro d g ih ν i b y h hi hb
    have w := h.2
    have hn := h.n2
    obtain ⟨ν1, g1, g2, g3, g4⟩ := M_nightOf h hm hs hc (nI i)
    have hlt := nt_lt w s (nI i) m 0 c (t 1) (-1) w.2.2.1
    have h256 := Nat.lt_of_lt_of_le hlt (pow_le _ w.2.1)
    have hr : pc (nt t s (nI i) m 0 c (t 1) (-1)).2 ≤ t 0 := pc_le2 _ (by omega) _ hlt
    have hfull : i = m → pc (nt t s (nI i) m 0 c (t 1) (-1)).2 = t 0 := by
      intro q
      rw [q, nt_full hm m 0 c (t 1) (-1) (by omega)]
      exact pc_full _ (by omega)
    have eq : S_M_wake_38 g ν (nI m) (nI s) (nI c) (nI b) y (nI i) = (if b < pc (nt t s (nI i) m 0 c (t 1) (-1)).2 ∨ (pc (nt t s (nI i) m 0 c (t 1) (-1)).2 = b ∧ ¬ y = -1) then g ν1 (nI m) (nI s) (nI c) (nI (pc (nt t s (nI i) m 0 c (t 1) (-1)).2)) (nI i) (nI (i + 1)) else g ν1 (nI m) (nI s) (nI c) (nI b) y (nI (i + 1))) := by
      unfold S_M_wake_38 F_M_wake_78 F_M_wake_82 F_M_wake_83 F_M_wake_97
      rw [if_neg (fun q => by have := (nI_ltI (by omega) (by omega)).mp q; omega), g1, bnd_s]
      show bnd (F_M_bits (nI (nt t s (nI i) m 0 c (t 1) (-1)).2)) _ = _
      rw [pcM _ h256, bnd_s, nI_1]
      generalize pc (nt t s (nI i) m 0 c (t 1) (-1)).2 = r at hr
      have q1 : ∀ u v : Option (Int32 × Mem), (if (1 : Int32) = 0 then u else v) = v := fun u v => if_neg (by decide)
      simp only [q1, if_true]
      by_cases c1 : b < r
      · rw [if_pos ((nI_ltI (by omega) (by omega)).mpr c1), if_pos (Or.inl c1)]
      · rw [if_neg (fun q => c1 ((nI_ltI (by omega) (by omega)).mp q))]
        by_cases c2 : r = b
        · rw [if_pos (by rw [c2])]
          by_cases c3 : y = -1
          · rw [if_pos c3, if_neg (fun q => q.elim c1 (fun q => q.2 c3))]
          · rw [if_neg c3, if_pos (Or.inr ⟨c2, c3⟩)]
        · rw [if_neg (fun q => c2 ((nI_eq (by omega) (by omega)).mp q)), if_neg (fun q => q.elim c1 (fun q => c2 q.1))]
    rw [eq]
    generalize pc (nt t s (nI i) m 0 c (t 1) (-1)).2 = r at hr hfull
    have keep := ih ν1 (i + 1) b y g3 (by omega) hb
    have upd' := ih ν1 (i + 1) r (nI i) g3 (by omega) hr
    refine ⟨fun q => ?_, fun p1 p2 => ?_⟩
    · rw [if_neg (fun u => u.elim (fun u => by omega) (fun u => u.2 q.2))]
      obtain ⟨ν2, e1, e2⟩ := keep.1 q
      exact ⟨ν2, e1, g4.tr e2⟩
    · by_cases cc : b < r ∨ (r = b ∧ ¬ y = -1)
      · rw [if_pos cc]
        obtain ⟨ν2, e1, e2⟩ := upd'.2 (fun _ q => absurd q (ne_m1 (by omega))) (fun q => by rw [show i = m by omega])
        exact ⟨ν2, e1, g4.tr e2⟩
      · rw [if_neg cc]
        obtain ⟨ν2, e1, e2⟩ := keep.2 (fun _ q => p1 (by omega) q) (fun q => by
          exfalso
          have hi2 : i = m := by omega
          have := hfull hi2
          by_cases c3 : y = -1
          · have := p1 (by omega) c3
            exact cc (Or.inl (by omega))
          · by_cases c4 : r = b
            · exact cc (Or.inr ⟨c4, c3⟩)
            · exact cc (Or.inl (by omega)))
        exact ⟨ν2, e1, g4.tr e2⟩
theorem ok_wake {μ ν : Mem} (h : Rel μ ν) (x y z : Int32) : okI Rel (F_T_wake μ x y z) (F_M_wake ν x y z) := by
  obtain ⟨t, f1, f2, f3⟩ := h.1
  have hm : MS (stI ν 0 0 0) t := start_ms ⟨f3, f1⟩
  have hn := hm.n2
  unfold F_T_wake F_M_wake
  rcases dNight x y z with ⟨m, s, c, h6, hs, hc, e1, e2, e3, h1, h2⟩ | ⟨h1, h2⟩
  · obtain ⟨m1, a1, a2, a3, a4⟩ := C_asItIs f2 f1
    obtain ⟨m2, b1, b2, b3⟩ := C_pass a2 h6 hs hc
    obtain ⟨ν1, g1, g2, g3, g4⟩ := M_nightOf hm h6 hs hc (-1)
    have hsc : SC μ m2 := (SC.of7 a3).tr b3
    have hsm : SM ν ν1 := (SM.st0 ν).tr g4
    have h256 := GS.st256 b2
    have hr := pc_le2 (t 0) (by omega) _ b2.2.2.1
    have wk := M_wk (t := t) (m := m) (s := s) (c := c) h6 hs hc (m + 1) (by omega) ν1 0 (pc (nt t s (-1) m 0 c (t 1) (-1)).2) (-1) g3 (by omega) hr
    rw [h1, h2, e1, e2, e3]
    simp only [bnd_s, br0, br1]
    rw [a1, bnd_s, b1, bnd_s, g1, bnd_s]
    show okI Rel (bnd (F_JI_bitCount (m2.1 7 4)) (fun r4 => if m2.1 1 0 ≤ r4 then some (-1, m2) else some (nI m, m2))) (bnd (F_M_bits (nI (nt t s (-1) m 0 c (t 1) (-1)).2)) (fun r3 => F_M_wake_38 ν1 (nI m) (nI s) (nI c) r3 (-1) 0))
    rw [GS.stn b2, pcT _ h256, pcM _ h256, bnd_s, bnd_s, GS.pegs b2]
    by_cases c0 : t 0 ≤ pc (nt t s (-1) m 0 c (t 1) (-1)).2
    · obtain ⟨ν2, w1, w2⟩ := wk.1 ⟨by omega, rfl⟩
      rw [if_pos ((nI_leI (by omega) (by omega)).mpr c0), show F_M_wake_38 ν1 (nI m) (nI s) (nI c) (nI (pc (nt t s (-1) m 0 c (t 1) (-1)).2)) (-1) 0 = _ from w1]
      exact ok_same h hsc (hsm.tr w2) rfl
    · obtain ⟨ν2, w1, w2⟩ := wk.2 (fun _ _ => by omega) (fun q => by omega)
      rw [if_neg (fun q => c0 ((nI_leI (by omega) (by omega)).mp q)), show F_M_wake_38 ν1 (nI m) (nI s) (nI c) (nI (pc (nt t s (-1) m 0 c (t 1) (-1)).2)) (-1) 0 = _ from w1]
      exact ok_same h hsc (hsm.tr w2) rfl
  · rw [h1, h2]
    simp only [bnd_s, br0, br1, T_bad, M_badTen]
    exact ok_bad h (SC.rf μ) (SM.st0 ν) _
