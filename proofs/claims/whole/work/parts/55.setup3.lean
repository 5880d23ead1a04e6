/-! Pure part (26): the check's count, from all down to none. -/
def fend (ν : Mem) (x1 x2 x3 x4 : Int32) : Option (Int32 × Mem) := (if x4 = (-1 : Int32) then (F_M_setUp_169 ν x4) else (gd (inb (0 : Int32) 256) (if ((ν.1 10) (0 : Int32).toNatClampNeg) = 0 then (F_M_setUp_169 ν x4) else (gd (inb (0 : Int32) 47) (if x4 < ((ν.1 2) (0 : Int32).toNatClampNeg) then (F_M_setUp_209 ν x1 x2 x3 x4 (0 : Int32) (-1 : Int32) (0 : Int32)) else (some ((-5 : Int32), ν)))))))
theorem M_62 {t : Nat → Nat} {pr v s : Nat} (hp : 1 ≤ pr ∧ pr ≤ 4) (hv : v < 8) (hs : s ≤ 61) (hn : t 0 ≤ 8) (o : Int32) : ∀ d, d < 1000 → ∀ (ν : Mem), MS ν t → d < 2 ^ t 0 → R10 ν t pr v s d → ∃ ν1, F_M_setUp_62 ν (nI pr) (nI v) (nI s) o (nI d + -1) = fend ν1 (nI pr) (nI v) (nI s) o ∧ MS ν1 t ∧ SM ν ν1 ∧ R10 ν1 t pr v s 0 := by
  have hpow := pow_le (t 0) hn
  refine fun d hd => iter_run (fun d (g : Mem → Int32 → Int32 → Int32 → Int32 → Int32 → Option (Int32 × Mem)) => ∀ (ν : Mem), MS ν t → d < 2 ^ t 0 → R10 ν t pr v s d → ∃ ν1, g ν (nI pr) (nI v) (nI s) o (nI d + -1) = fend ν1 (nI pr) (nI v) (nI s) o ∧ MS ν1 t ∧ SM ν ν1 ∧ R10 ν1 t pr v s 0) ?_ ?_ NF d (NF_lt hd)
  · intro g ν h hd hR
    unfold S_M_setUp_62
    rw [if_pos (show nI 0 + -1 < 0 by decide)]
    exact ⟨ν, rfl, h, SM.rf ν, hR⟩
  · intro d g ih ν h hd hR
    unfold S_M_setUp_62
    rw [m1_add, if_neg (show ¬ nI d < 0 from fun q => by have := (nI_ltI (b := 0) (by omega) (by omega)).mp q; omega), gd_nI (by omega) (by decide), nclamp (by omega)]
    obtain ⟨ν1, e1, e2, e3, e4, e5⟩ := M_in78 hp hv hs (show d < 2 ^ t 0 by omega) hn o g (t 0) (by omega) (stI ν 10 d 0) 0 0 (h.stI (by decide)) (by omega) (fun j q r => by rw [stI_same, upd_ne _ _ (by omega)]; exact hR j q r) (by rw [stI_same, upd_same]; rfl)
    rw [show F_M_setUp_78 g (stI ν 10 d 0) (nI pr) (nI v) (nI s) o (nI d) 0 = _ from e1]
    obtain ⟨ν2, g1, g2, g3, g4⟩ := ih ν1 e2 (by omega) (fun j q r => by
      by_cases c : j = d
      · rw [c, e5, cc_sum hn pr v s (by omega) (by omega)]
      · exact e4 j (by omega) r)
    exact ⟨ν2, g1, g2, ((SM.st (by omega)).tr e3).tr g3, g4⟩
