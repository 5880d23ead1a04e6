/-! Pure part (46): read, done. -/
theorem LC.sc {μ μ1 : Mem} (h : LC μ μ1) : SC μ μ1 := fun k q => h k (by omega)
theorem GM.sm {ν ν1 : Mem} (h : GM ν ν1) : SM ν ν1 := ⟨fun k q => h.1 k (by omega) (by omega), h.2.1 7 (by decide), h.2.2 17 (by decide), h.2.2 18 (by decide)⟩
theorem TM.smf {ν ν1 : Mem} (h : TM ν ν1) : SMF ν ν1 := SMF.no2 h.1 h.2
theorem ts_4 {t : Nat → Nat} (h : t 4 = 0) : tset t 4 0 = t := by
  funext j
  by_cases e : j = 4
  · rw [e, ts_same, h]
  · rw [ts_ne _ _ e]
theorem ok_read {μ ν : Mem} (h : Rel μ ν) : okI Rel (F_T_read μ) (F_M_read ν) := by
  obtain ⟨t0, f1, f2, f3⟩ := h.1
  obtain ⟨L, hL, x1, x2, x3⟩ := h.2.2.1
  have hc : ∀ j, j < L → (μ.1 13 j).toNatClampNeg ≤ 127 ∧ μ.1 13 j = nI (μ.1 13 j).toNatClampNeg ∧ ν.1 6 j = nI (μ.1 13 j).toNatClampNeg := by
    intro j q
    obtain ⟨ch, a1, a2, a3⟩ := x3 j q
    rw [a2, nclamp (by omega)]
    exact ⟨a1, rfl, a3⟩
  have hM : MT (stI ν 0 0 0) (fun j => (μ.1 13 j).toNatClampNeg) L := ⟨hL, by rw [stI_same, upd_ne _ _ (by decide)]; exact x2, fun j q => ⟨(hc j q).1, by rw [stI_ne _ _ _ (by decide)]; exact (hc j q).2.2⟩⟩
  obtain ⟨m, n, x, e1, e2, e3, e4, e5⟩ := begun (μ := μ) hL (fun j q => ⟨(hc j q).1, (hc j q).2.1⟩) hM t0
  unfold F_T_read F_M_read
  rw [x1, e1, e2, bnd_s, bnd_s]
  have hsm : SM ν n := (SM.st0 ν).tr e4.sm
  rcases e5 with ⟨f, q1, q2, q3⟩ | ⟨q2, q3, k, it, k0, k200, m8, n13, hR, hT⟩
  · rw [if_neg (by rw [q3]; exact ne_m1 (by omega)), q3]
    refine ⟨-10 - nI f, m, n, rfl, ?_, h.same e3.sc hsm⟩
    show (if x = -1 then F_M_read_22 n 0 else some (-10 - x, n)) = _
    rw [q2, if_neg (ne_m1 (by omega))]
  · obtain ⟨n2, g1, g2, g3, g4⟩ := M_22 47 (by decide) n 0 rfl (fun j q => absurd q (by omega))
    have eM : (fun (r1 : Int32) (m1 : Mem) => if r1 = -1 then F_M_read_22 m1 0 else some (-10 - r1, m1)) (x, n).1 (x, n).2 = F_M_read_48 n2 (nI 0) := by
      show (if x = -1 then F_M_read_22 n 0 else some (-10 - x, n)) = _
      rw [if_pos q2]; exact g1
    have hf2 : MF (n2.1 2) t0 := by rw [g2 2 (by decide), hsm.1 2 (by omega)]; exact f3
    obtain ⟨i1, i2⟩ := M_48 (it := it) (t0 := t0) k200 k (by omega) n2 0 t0 (by omega) ⟨hf2, f1⟩ rfl (hR.tm (g2 7 (by decide))) (by rw [g2 0 (by decide)]; exact n13)
    have hsm2 : SMF ν n2 := (SMF.of hsm).tr ⟨fun i q => g2 i (by omega), by rw [g2 0 (by decide)], by rw [g3], by rw [g3]⟩
    rw [if_pos q3, m8]
    rcases hT with ⟨r1, t, r2, r3⟩ | ⟨r, r1, r2, t, r3, r4⟩
    · obtain ⟨s1, s2, s3⟩ := r3.resolve_left (by omega)
      obtain ⟨mb, b1, b2, b3⟩ := C_copy (b := 1) s1 (by omega)
      obtain ⟨n3, c1, c2, c3⟩ := i1 t r2
      rw [if_pos r1, b1, bnd_s]
      rw [ts_4 s3] at c2
      refine ⟨nI k, _, n3, rfl, eM.trans c1, h.fld (fun i q => ?_) (hsm2.tr c3.smf) ⟨t, s2, b2, c2⟩⟩
      rw [b3 i (by omega)]; exact e3 i (by omega)
    · obtain ⟨n3, c1, c2, c3⟩ := i2 r t (Nat.zero_le _) r1 r3 r4
      rw [if_neg (by rw [r2]; exact ne_m1 (by omega)), r2]
      refine ⟨-1000 - nI r, m, n3, rfl, eM.trans c1, h.fld (SCF.of e3.sc) (hsm2.tr c2.smf) ⟨t0, f1, f2.keep (fun i p q => e3 i (by omega)), fun j q => ?_⟩⟩
      rw [c3 j q, g4 j q, hsm.1 2 (by omega)]
      exact f3 j q
