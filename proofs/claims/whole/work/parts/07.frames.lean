theorem fr_1 (a : Nat → Nat) (cs : Nat → ClassId) (μ : Mem) (φ : Mem) : Fr (AC a) (AF (off 1 a)) (WC a cs μ) (WF (off 1 a) cs (sub 1 μ)) (WF (off 1 a) cs φ) (WC a cs (put6 1 0 μ φ)) := by
  refine Fr.of [1, 2, 3, 4, 5, 6] [0, 7, 8, 9, 10, 11, 12, 13, 14, 15, 16, 17, 18, 19, 20, 21, 22, 23, 24, 25, 26, 27, 28, 29, 30, 31, 32, 33, 34, 35] [0, 30, 31, 32, 33, 34, 35, 1, 2, 3, 4, 5, 6, 7, 8, 9, 10, 11, 12, 13, 14, 15, 16, 17, 18, 19, 20, 21, 22, 23, 24, 25, 26, 27, 28, 29] (([0, 7, 8, 9, 10, 11, 12, 13, 14, 15, 16, 17, 18, 19, 20, 21, 22, 23, 24, 25, 26, 27, 28, 29, 30, 31, 32, 33, 34, 35] : List Nat).filterMap (fun i => (WC a cs μ)[i]?)) (fun q hq => ?_) (fun q h => h) (fun k q h => ?_) rfl rfl (by decide) rfl (by decide) rfl rfl
  · simp only [AF, off, List.mem_cons, List.not_mem_nil, or_false] at hq
    rcases hq with rfl | rfl | rfl | rfl | rfl | rfl <;> simp [AC]
  · exact (List.mem_map_of_mem (f := fun q : Nat × va_E => q.1) (List.mem_of_getElem? h) : q.1 ∈ (WF (off 1 a) cs (sub 1 μ)).map (fun q => q.1))
theorem frR_1 (a : Nat → Nat) (cs : Nat → ClassId) (μ : Mem) : Fr (AC a) (AF (off 1 a)) (WC a cs μ) (WF (off 1 a) cs (sub 1 μ)) (WF (off 1 a) cs (sub 1 μ)) (WC a cs μ) := by
  refine Fr.of [1, 2, 3, 4, 5, 6] [0, 7, 8, 9, 10, 11, 12, 13, 14, 15, 16, 17, 18, 19, 20, 21, 22, 23, 24, 25, 26, 27, 28, 29, 30, 31, 32, 33, 34, 35] [0, 30, 31, 32, 33, 34, 35, 1, 2, 3, 4, 5, 6, 7, 8, 9, 10, 11, 12, 13, 14, 15, 16, 17, 18, 19, 20, 21, 22, 23, 24, 25, 26, 27, 28, 29] (([0, 7, 8, 9, 10, 11, 12, 13, 14, 15, 16, 17, 18, 19, 20, 21, 22, 23, 24, 25, 26, 27, 28, 29, 30, 31, 32, 33, 34, 35] : List Nat).filterMap (fun i => (WC a cs μ)[i]?)) (fun q hq => ?_) (fun q h => h) (fun k q h => ?_) rfl rfl (by decide) rfl (by decide) rfl rfl
  · simp only [AF, off, List.mem_cons, List.not_mem_nil, or_false] at hq
    rcases hq with rfl | rfl | rfl | rfl | rfl | rfl <;> simp [AC]
  · exact (List.mem_map_of_mem (f := fun q : Nat × va_E => q.1) (List.mem_of_getElem? h) : q.1 ∈ (WF (off 1 a) cs (sub 1 μ)).map (fun q => q.1))
theorem fr_16 (a : Nat → Nat) (cs : Nat → ClassId) (μ : Mem) (φ : Mem) : Fr (AC a) (AF (off 16 a)) (WC a cs μ) (WF (off 16 a) cs (sub 16 μ)) (WF (off 16 a) cs φ) (WC a cs (put6 16 0 μ φ)) := by
  refine Fr.of [16, 17, 18, 19, 20, 21] [0, 1, 2, 3, 4, 5, 6, 7, 8, 9, 10, 11, 12, 13, 14, 15, 22, 23, 24, 25, 26, 27, 28, 29, 30, 31, 32, 33, 34, 35] [0, 1, 2, 3, 4, 5, 6, 7, 8, 9, 10, 11, 12, 13, 14, 15, 30, 31, 32, 33, 34, 35, 16, 17, 18, 19, 20, 21, 22, 23, 24, 25, 26, 27, 28, 29] (([0, 1, 2, 3, 4, 5, 6, 7, 8, 9, 10, 11, 12, 13, 14, 15, 22, 23, 24, 25, 26, 27, 28, 29, 30, 31, 32, 33, 34, 35] : List Nat).filterMap (fun i => (WC a cs μ)[i]?)) (fun q hq => ?_) (fun q h => h) (fun k q h => ?_) rfl rfl (by decide) rfl (by decide) rfl rfl
  · simp only [AF, off, List.mem_cons, List.not_mem_nil, or_false] at hq
    rcases hq with rfl | rfl | rfl | rfl | rfl | rfl <;> simp [AC]
  · exact (List.mem_map_of_mem (f := fun q : Nat × va_E => q.1) (List.mem_of_getElem? h) : q.1 ∈ (WF (off 16 a) cs (sub 16 μ)).map (fun q => q.1))
theorem frR_16 (a : Nat → Nat) (cs : Nat → ClassId) (μ : Mem) : Fr (AC a) (AF (off 16 a)) (WC a cs μ) (WF (off 16 a) cs (sub 16 μ)) (WF (off 16 a) cs (sub 16 μ)) (WC a cs μ) := by
  refine Fr.of [16, 17, 18, 19, 20, 21] [0, 1, 2, 3, 4, 5, 6, 7, 8, 9, 10, 11, 12, 13, 14, 15, 22, 23, 24, 25, 26, 27, 28, 29, 30, 31, 32, 33, 34, 35] [0, 1, 2, 3, 4, 5, 6, 7, 8, 9, 10, 11, 12, 13, 14, 15, 30, 31, 32, 33, 34, 35, 16, 17, 18, 19, 20, 21, 22, 23, 24, 25, 26, 27, 28, 29] (([0, 1, 2, 3, 4, 5, 6, 7, 8, 9, 10, 11, 12, 13, 14, 15, 22, 23, 24, 25, 26, 27, 28, 29, 30, 31, 32, 33, 34, 35] : List Nat).filterMap (fun i => (WC a cs μ)[i]?)) (fun q hq => ?_) (fun q h => h) (fun k q h => ?_) rfl rfl (by decide) rfl (by decide) rfl rfl
  · simp only [AF, off, List.mem_cons, List.not_mem_nil, or_false] at hq
    rcases hq with rfl | rfl | rfl | rfl | rfl | rfl <;> simp [AC]
  · exact (List.mem_map_of_mem (f := fun q : Nat × va_E => q.1) (List.mem_of_getElem? h) : q.1 ∈ (WF (off 16 a) cs (sub 16 μ)).map (fun q => q.1))
theorem fr_23 (a : Nat → Nat) (cs : Nat → ClassId) (μ : Mem) (φ : Mem) : Fr (AC a) (AF (off 23 a)) (WC a cs μ) (WF (off 23 a) cs (sub 23 μ)) (WF (off 23 a) cs φ) (WC a cs (put6 23 0 μ φ)) := by
  refine Fr.of [23, 24, 25, 26, 27, 28] [0, 1, 2, 3, 4, 5, 6, 7, 8, 9, 10, 11, 12, 13, 14, 15, 16, 17, 18, 19, 20, 21, 22, 29, 30, 31, 32, 33, 34, 35] [0, 1, 2, 3, 4, 5, 6, 7, 8, 9, 10, 11, 12, 13, 14, 15, 16, 17, 18, 19, 20, 21, 22, 30, 31, 32, 33, 34, 35, 23, 24, 25, 26, 27, 28, 29] (([0, 1, 2, 3, 4, 5, 6, 7, 8, 9, 10, 11, 12, 13, 14, 15, 16, 17, 18, 19, 20, 21, 22, 29, 30, 31, 32, 33, 34, 35] : List Nat).filterMap (fun i => (WC a cs μ)[i]?)) (fun q hq => ?_) (fun q h => h) (fun k q h => ?_) rfl rfl (by decide) rfl (by decide) rfl rfl
  · simp only [AF, off, List.mem_cons, List.not_mem_nil, or_false] at hq
    rcases hq with rfl | rfl | rfl | rfl | rfl | rfl <;> simp [AC]
  · exact (List.mem_map_of_mem (f := fun q : Nat × va_E => q.1) (List.mem_of_getElem? h) : q.1 ∈ (WF (off 23 a) cs (sub 23 μ)).map (fun q => q.1))
theorem frR_23 (a : Nat → Nat) (cs : Nat → ClassId) (μ : Mem) : Fr (AC a) (AF (off 23 a)) (WC a cs μ) (WF (off 23 a) cs (sub 23 μ)) (WF (off 23 a) cs (sub 23 μ)) (WC a cs μ) := by
  refine Fr.of [23, 24, 25, 26, 27, 28] [0, 1, 2, 3, 4, 5, 6, 7, 8, 9, 10, 11, 12, 13, 14, 15, 16, 17, 18, 19, 20, 21, 22, 29, 30, 31, 32, 33, 34, 35] [0, 1, 2, 3, 4, 5, 6, 7, 8, 9, 10, 11, 12, 13, 14, 15, 16, 17, 18, 19, 20, 21, 22, 30, 31, 32, 33, 34, 35, 23, 24, 25, 26, 27, 28, 29] (([0, 1, 2, 3, 4, 5, 6, 7, 8, 9, 10, 11, 12, 13, 14, 15, 16, 17, 18, 19, 20, 21, 22, 29, 30, 31, 32, 33, 34, 35] : List Nat).filterMap (fun i => (WC a cs μ)[i]?)) (fun q hq => ?_) (fun q h => h) (fun k q h => ?_) rfl rfl (by decide) rfl (by decide) rfl rfl
  · simp only [AF, off, List.mem_cons, List.not_mem_nil, or_false] at hq
    rcases hq with rfl | rfl | rfl | rfl | rfl | rfl <;> simp [AC]
  · exact (List.mem_map_of_mem (f := fun q : Nat × va_E => q.1) (List.mem_of_getElem? h) : q.1 ∈ (WF (off 23 a) cs (sub 23 μ)).map (fun q => q.1))
theorem fr_29 (a : Nat → Nat) (cs : Nat → ClassId) (μ : Mem) (φ : Mem) : Fr (AC a) (AF (off 29 a)) (WC a cs μ) (WF (off 29 a) cs (sub 29 μ)) (WF (off 29 a) cs φ) (WC a cs (put6 29 0 μ φ)) := by
  refine Fr.of [29, 30, 31, 32, 33, 34] [0, 1, 2, 3, 4, 5, 6, 7, 8, 9, 10, 11, 12, 13, 14, 15, 16, 17, 18, 19, 20, 21, 22, 23, 24, 25, 26, 27, 28, 35] [0, 1, 2, 3, 4, 5, 6, 7, 8, 9, 10, 11, 12, 13, 14, 15, 16, 17, 18, 19, 20, 21, 22, 23, 24, 25, 26, 27, 28, 30, 31, 32, 33, 34, 35, 29] (([0, 1, 2, 3, 4, 5, 6, 7, 8, 9, 10, 11, 12, 13, 14, 15, 16, 17, 18, 19, 20, 21, 22, 23, 24, 25, 26, 27, 28, 35] : List Nat).filterMap (fun i => (WC a cs μ)[i]?)) (fun q hq => ?_) (fun q h => h) (fun k q h => ?_) rfl rfl (by decide) rfl (by decide) rfl rfl
  · simp only [AF, off, List.mem_cons, List.not_mem_nil, or_false] at hq
    rcases hq with rfl | rfl | rfl | rfl | rfl | rfl <;> simp [AC]
  · exact (List.mem_map_of_mem (f := fun q : Nat × va_E => q.1) (List.mem_of_getElem? h) : q.1 ∈ (WF (off 29 a) cs (sub 29 μ)).map (fun q => q.1))
theorem frR_29 (a : Nat → Nat) (cs : Nat → ClassId) (μ : Mem) : Fr (AC a) (AF (off 29 a)) (WC a cs μ) (WF (off 29 a) cs (sub 29 μ)) (WF (off 29 a) cs (sub 29 μ)) (WC a cs μ) := by
  refine Fr.of [29, 30, 31, 32, 33, 34] [0, 1, 2, 3, 4, 5, 6, 7, 8, 9, 10, 11, 12, 13, 14, 15, 16, 17, 18, 19, 20, 21, 22, 23, 24, 25, 26, 27, 28, 35] [0, 1, 2, 3, 4, 5, 6, 7, 8, 9, 10, 11, 12, 13, 14, 15, 16, 17, 18, 19, 20, 21, 22, 23, 24, 25, 26, 27, 28, 30, 31, 32, 33, 34, 35, 29] (([0, 1, 2, 3, 4, 5, 6, 7, 8, 9, 10, 11, 12, 13, 14, 15, 16, 17, 18, 19, 20, 21, 22, 23, 24, 25, 26, 27, 28, 35] : List Nat).filterMap (fun i => (WC a cs μ)[i]?)) (fun q hq => ?_) (fun q h => h) (fun k q h => ?_) rfl rfl (by decide) rfl (by decide) rfl rfl
  · simp only [AF, off, List.mem_cons, List.not_mem_nil, or_false] at hq
    rcases hq with rfl | rfl | rfl | rfl | rfl | rfl <;> simp [AC]
  · exact (List.mem_map_of_mem (f := fun q : Nat × va_E => q.1) (List.mem_of_getElem? h) : q.1 ∈ (WF (off 29 a) cs (sub 29 μ)).map (fun q => q.1))
theorem fr2_1_16 (a : Nat → Nat) (cs : Nat → ClassId) (μ φ : Mem) : Fr (AC a) (AFF (off2 1 16 a)) (WC a cs μ) (WFF (off2 1 16 a) cs (two 1 16 μ)) (WFF (off2 1 16 a) cs φ) (WC a cs (put6 1 0 (put6 16 6 μ φ) φ)) := by
  refine Fr.of [1, 2, 3, 4, 5, 6, 16, 17, 18, 19, 20, 21] [0, 7, 8, 9, 10, 11, 12, 13, 14, 15, 22, 23, 24, 25, 26, 27, 28, 29, 30, 31, 32, 33, 34, 35] [0, 24, 25, 26, 27, 28, 29, 1, 2, 3, 4, 5, 6, 7, 8, 9, 30, 31, 32, 33, 34, 35, 10, 11, 12, 13, 14, 15, 16, 17, 18, 19, 20, 21, 22, 23] (([0, 7, 8, 9, 10, 11, 12, 13, 14, 15, 22, 23, 24, 25, 26, 27, 28, 29, 30, 31, 32, 33, 34, 35] : List Nat).filterMap (fun i => (WC a cs μ)[i]?)) (fun q hq => ?_) (fun q h => h) (fun k q h => ?_) rfl rfl (by decide) rfl (by decide) rfl rfl
  · have hq : q ∈ [a 1, a 2, a 3, a 4, a 5, a 6, a 16, a 17, a 18, a 19, a 20, a 21] := hq
    simp only [List.mem_cons, List.not_mem_nil, or_false] at hq
    rcases hq with rfl | rfl | rfl | rfl | rfl | rfl | rfl | rfl | rfl | rfl | rfl | rfl <;> simp [AC]
  · exact (List.mem_map_of_mem (f := fun q : Nat × va_E => q.1) (List.mem_of_getElem? h) : q.1 ∈ (WFF (off2 1 16 a) cs (two 1 16 μ)).map (fun q => q.1))
theorem fr2_1_23 (a : Nat → Nat) (cs : Nat → ClassId) (μ φ : Mem) : Fr (AC a) (AFF (off2 1 23 a)) (WC a cs μ) (WFF (off2 1 23 a) cs (two 1 23 μ)) (WFF (off2 1 23 a) cs φ) (WC a cs (put6 1 0 (put6 23 6 μ φ) φ)) := by
  refine Fr.of [1, 2, 3, 4, 5, 6, 23, 24, 25, 26, 27, 28] [0, 7, 8, 9, 10, 11, 12, 13, 14, 15, 16, 17, 18, 19, 20, 21, 22, 29, 30, 31, 32, 33, 34, 35] [0, 24, 25, 26, 27, 28, 29, 1, 2, 3, 4, 5, 6, 7, 8, 9, 10, 11, 12, 13, 14, 15, 16, 30, 31, 32, 33, 34, 35, 17, 18, 19, 20, 21, 22, 23] (([0, 7, 8, 9, 10, 11, 12, 13, 14, 15, 16, 17, 18, 19, 20, 21, 22, 29, 30, 31, 32, 33, 34, 35] : List Nat).filterMap (fun i => (WC a cs μ)[i]?)) (fun q hq => ?_) (fun q h => h) (fun k q h => ?_) rfl rfl (by decide) rfl (by decide) rfl rfl
  · have hq : q ∈ [a 1, a 2, a 3, a 4, a 5, a 6, a 23, a 24, a 25, a 26, a 27, a 28] := hq
    simp only [List.mem_cons, List.not_mem_nil, or_false] at hq
    rcases hq with rfl | rfl | rfl | rfl | rfl | rfl | rfl | rfl | rfl | rfl | rfl | rfl <;> simp [AC]
  · exact (List.mem_map_of_mem (f := fun q : Nat × va_E => q.1) (List.mem_of_getElem? h) : q.1 ∈ (WFF (off2 1 23 a) cs (two 1 23 μ)).map (fun q => q.1))
theorem fr2_1_29 (a : Nat → Nat) (cs : Nat → ClassId) (μ φ : Mem) : Fr (AC a) (AFF (off2 1 29 a)) (WC a cs μ) (WFF (off2 1 29 a) cs (two 1 29 μ)) (WFF (off2 1 29 a) cs φ) (WC a cs (put6 1 0 (put6 29 6 μ φ) φ)) := by
  refine Fr.of [1, 2, 3, 4, 5, 6, 29, 30, 31, 32, 33, 34] [0, 7, 8, 9, 10, 11, 12, 13, 14, 15, 16, 17, 18, 19, 20, 21, 22, 23, 24, 25, 26, 27, 28, 35] [0, 24, 25, 26, 27, 28, 29, 1, 2, 3, 4, 5, 6, 7, 8, 9, 10, 11, 12, 13, 14, 15, 16, 17, 18, 19, 20, 21, 22, 30, 31, 32, 33, 34, 35, 23] (([0, 7, 8, 9, 10, 11, 12, 13, 14, 15, 16, 17, 18, 19, 20, 21, 22, 23, 24, 25, 26, 27, 28, 35] : List Nat).filterMap (fun i => (WC a cs μ)[i]?)) (fun q hq => ?_) (fun q h => h) (fun k q h => ?_) rfl rfl (by decide) rfl (by decide) rfl rfl
  · have hq : q ∈ [a 1, a 2, a 3, a 4, a 5, a 6, a 29, a 30, a 31, a 32, a 33, a 34] := hq
    simp only [List.mem_cons, List.not_mem_nil, or_false] at hq
    rcases hq with rfl | rfl | rfl | rfl | rfl | rfl | rfl | rfl | rfl | rfl | rfl | rfl <;> simp [AC]
  · exact (List.mem_map_of_mem (f := fun q : Nat × va_E => q.1) (List.mem_of_getElem? h) : q.1 ∈ (WFF (off2 1 29 a) cs (two 1 29 μ)).map (fun q => q.1))
theorem fr2_23_1 (a : Nat → Nat) (cs : Nat → ClassId) (μ φ : Mem) : Fr (AC a) (AFF (off2 23 1 a)) (WC a cs μ) (WFF (off2 23 1 a) cs (two 23 1 μ)) (WFF (off2 23 1 a) cs φ) (WC a cs (put6 23 0 (put6 1 6 μ φ) φ)) := by
  refine Fr.of [23, 24, 25, 26, 27, 28, 1, 2, 3, 4, 5, 6] [0, 7, 8, 9, 10, 11, 12, 13, 14, 15, 16, 17, 18, 19, 20, 21, 22, 29, 30, 31, 32, 33, 34, 35] [0, 30, 31, 32, 33, 34, 35, 1, 2, 3, 4, 5, 6, 7, 8, 9, 10, 11, 12, 13, 14, 15, 16, 24, 25, 26, 27, 28, 29, 17, 18, 19, 20, 21, 22, 23] (([0, 7, 8, 9, 10, 11, 12, 13, 14, 15, 16, 17, 18, 19, 20, 21, 22, 29, 30, 31, 32, 33, 34, 35] : List Nat).filterMap (fun i => (WC a cs μ)[i]?)) (fun q hq => ?_) (fun q h => h) (fun k q h => ?_) rfl rfl (by decide) rfl (by decide) rfl rfl
  · have hq : q ∈ [a 23, a 24, a 25, a 26, a 27, a 28, a 1, a 2, a 3, a 4, a 5, a 6] := hq
    simp only [List.mem_cons, List.not_mem_nil, or_false] at hq
    rcases hq with rfl | rfl | rfl | rfl | rfl | rfl | rfl | rfl | rfl | rfl | rfl | rfl <;> simp [AC]
  · exact (List.mem_map_of_mem (f := fun q : Nat × va_E => q.1) (List.mem_of_getElem? h) : q.1 ∈ (WFF (off2 23 1 a) cs (two 23 1 μ)).map (fun q => q.1))
theorem fr2_29_1 (a : Nat → Nat) (cs : Nat → ClassId) (μ φ : Mem) : Fr (AC a) (AFF (off2 29 1 a)) (WC a cs μ) (WFF (off2 29 1 a) cs (two 29 1 μ)) (WFF (off2 29 1 a) cs φ) (WC a cs (put6 29 0 (put6 1 6 μ φ) φ)) := by
  refine Fr.of [29, 30, 31, 32, 33, 34, 1, 2, 3, 4, 5, 6] [0, 7, 8, 9, 10, 11, 12, 13, 14, 15, 16, 17, 18, 19, 20, 21, 22, 23, 24, 25, 26, 27, 28, 35] [0, 30, 31, 32, 33, 34, 35, 1, 2, 3, 4, 5, 6, 7, 8, 9, 10, 11, 12, 13, 14, 15, 16, 17, 18, 19, 20, 21, 22, 24, 25, 26, 27, 28, 29, 23] (([0, 7, 8, 9, 10, 11, 12, 13, 14, 15, 16, 17, 18, 19, 20, 21, 22, 23, 24, 25, 26, 27, 28, 35] : List Nat).filterMap (fun i => (WC a cs μ)[i]?)) (fun q hq => ?_) (fun q h => h) (fun k q h => ?_) rfl rfl (by decide) rfl (by decide) rfl rfl
  · have hq : q ∈ [a 29, a 30, a 31, a 32, a 33, a 34, a 1, a 2, a 3, a 4, a 5, a 6] := hq
    simp only [List.mem_cons, List.not_mem_nil, or_false] at hq
    rcases hq with rfl | rfl | rfl | rfl | rfl | rfl | rfl | rfl | rfl | rfl | rfl | rfl <;> simp [AC]
  · exact (List.mem_map_of_mem (f := fun q : Nat × va_E => q.1) (List.mem_of_getElem? h) : q.1 ∈ (WFF (off2 29 1 a) cs (two 29 1 μ)).map (fun q => q.1))
