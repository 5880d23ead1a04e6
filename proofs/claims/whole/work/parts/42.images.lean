/-! Pure part (13): digest, images. -/
theorem dig3 {μ ν : Mem} (h : Rel μ ν) : ∀ d, d < 1000 → ∀ (i : Nat) (z : Int64), i + d = 8 → ∃ r, F_T_digest_129 μ z (nI i) = some r ∧ F_M_digest_124 (stI ν 0 0 0) z (nI i) = some (r, stI ν 0 0 0) := by
  obtain ⟨t, f1, f2, f3⟩ := h.1
  obtain ⟨r1, r2⟩ := h.2.2.2.1
  intro d
  induction d with
  | zero =>
    intro hd i z hi
    unfold F_T_digest_129 F_M_digest_124
    rw [show NF = (NF - 1) + 1 from rfl, iter_succ, iter_succ]
    unfold S_T_digest_129 S_M_digest_124
    rw [lit 8, if_pos ((nI_leI (by omega) (by omega)).mpr (by omega)), if_pos ((nI_leI (by omega) (by omega)).mpr (by omega)), r1, r2]
    exact ⟨_, rfl, rfl⟩
  | succ d ih => sorry
