/-! Pure part (23): new objects. -/
theorem zT_0 (φ0 : Mem) (k : Nat) (h : k = 0 ∨ k = 13 ∨ k = 35) : (zT φ0).1 k = (stI (stI (stI (stI (stI zM 0 9 1) 10 5 (-1)) 14 6 1) 14 9 (-1)) 14 10 (-1)).1 k := by
  unfold zT
  rw [put6_out _ _ _ _ (by omega), put6_out _ _ _ _ (by omega), put6_out _ _ _ _ (by omega), put6_out _ _ _ _ (by omega)]
theorem rel_init : ∃ φ0 ψ0 : Mem, F_F_pitch zM 8 = some φ0 ∧ F_M_pitch (stL zM 18 1) 8 = some ψ0 ∧ Rel (zT φ0) ψ0 := by
  obtain ⟨φ0, e1, e2⟩ := C_pitch zM (n := 8) (by decide)
  obtain ⟨ψ0, g1, g2, g3, g4⟩ := M_pitch (stL zM 18 1) (n := 8) (by decide)
  refine ⟨φ0, ψ0, e1, g1, ⟨pitchT 8, pitch_wf (by decide) (by decide), e2.put, g2⟩, ?_, ⟨0, by decide, ?_, ?_, fun j q => absurd q (by omega)⟩, ?_, fun i hi => ?_⟩
  · unfold Rst
    rw [zT_0 φ0 0 (by omega), g3 1 (by decide)]
    exact ⟨rfl, rfl, rfl⟩
  · rw [zT_0 φ0 0 (by omega)]; rfl
  · rw [g3 0 (by decide)]; rfl
  · unfold Rfr
    rw [zT_0 φ0 0 (by omega), g4]
    exact ⟨rfl, rfl⟩
  · rw [zT_0 φ0 35 (by omega), g3 5 (by decide)]
    exact ⟨rfl, Or.inl rfl⟩
