def Rel : Mem → Mem → Prop := fun _ _ => True
theorem relOK : RelOK Rel := sorry
theorem rel_init : ∃ φ0 ψ0 : Mem, F_F_pitch zM 8 = some φ0 ∧ F_M_pitch (stL zM 18 1) 8 = some ψ0 ∧ Rel (zT φ0) ψ0 := sorry
