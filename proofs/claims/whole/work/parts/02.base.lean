/-! Own layer (1): the words, the classes, the memory, the worlds. Printed by wip/whole/base.py. -/
def TT : List Cond := lw_tbl.filter goodWord
theorem tm (i : Nat) {w : Cond} (h : lw_tbl[i]? = some w) (g : goodWord w = true) : w ∈ TT := List.mem_filter.mpr ⟨List.mem_of_getElem? h, g⟩
theorem TT_lw : ∀ w ∈ TT, w ∈ lw_tbl := fun _ h => (List.mem_filter.mp h).1
theorem TT_in : GoodIn TT TT := fun _ h => ⟨h, good_of_word (List.mem_filter.mp h).2⟩
theorem TT_inc {y : MethodName} {c : ByteArray} {n : Nat} {r : Option FieldType} (h : Cond.code y c n r ∈ TT) : GoodIn TT (Cond.code y c n r :: TT) := by
  intro w hw
  rcases List.mem_cons.mp hw with rfl | hw
  · exact TT_in _ h
  · exact TT_in _ hw
def R_F : String := "TentPegs$Field"
def T_F : u_T := fun k => match k with
  | 0 => ("TentPegs$Field", "pegs", "I", false)
  | 1 => ("TentPegs$Field", "wetness", "I", false)
  | 2 => ("TentPegs$Field", "walls", "I", false)
  | 3 => ("TentPegs$Field", "standing", "I", false)
  | 4 => ("TentPegs$Field", "undoable", "I", false)
  | 5 => ("TentPegs$Field", "kinds", "[I", true)
  | 6 => ("TentPegs$Field", "depths", "[I", true)
  | 7 => ("TentPegs$Field", "grounds", "[I", true)
  | 8 => ("TentPegs$Field", "chances", "[I", true)
  | _ => ("TentPegs$Field", "stoodBefore", "[I", true)
def ty_F : Nat → FieldType := fun k => match k with
  | 0 => .int
  | 1 => .int
  | 2 => .int
  | 3 => .int
  | 4 => .int
  | 5 => .array .int
  | 6 => .array .int
  | 7 => .array .int
  | 8 => .array .int
  | _ => .array .int
theorem nm_F : ∀ a, a < 10 → ∀ b, b < 10 → a ≠ b → (T_F a).2.1 ≠ (T_F b).2.1 := by decide +kernel
theorem ok_F : ∀ k, k < 10 → parseFieldDescriptor (T_F k).2.2.1 = some (ty_F k) := by decide +kernel
theorem in_F : ∀ w ∈ u_ws R_F T_F 10, w ∈ TT := by
  have h : (u_ws R_F T_F 10).all (fun w => decide (w ∈ lw_tbl) && goodWord w) = true := by decide +kernel
  intro w hw
  have h1 := List.all_eq_true.mp h w hw
  simp only [Bool.and_eq_true, decide_eq_true_eq] at h1
  exact List.mem_filter.mpr h1
def R_G : String := "TentPegs$Gale"
def T_G : u_T := fun k => match k with
  | 0 => ("TentPegs$Gale", "field", "LTentPegs$Field;", true)
  | 1 => ("TentPegs$Gale", "pulls", "[I", true)
  | 2 => ("TentPegs$Gale", "went", "[I", true)
  | 3 => ("TentPegs$Gale", "gone", "I", false)
  | 4 => ("TentPegs$Gale", "standing", "I", false)
  | 5 => ("TentPegs$Gale", "walls", "I", false)
  | 6 => ("TentPegs$Gale", "turned", "I", false)
  | _ => ("TentPegs$Gale", "doubled", "I", false)
def ty_G : Nat → FieldType := fun k => match k with
  | 0 => .object "TentPegs$Field"
  | 1 => .array .int
  | 2 => .array .int
  | 3 => .int
  | 4 => .int
  | 5 => .int
  | 6 => .int
  | _ => .int
theorem nm_G : ∀ a, a < 8 → ∀ b, b < 8 → a ≠ b → (T_G a).2.1 ≠ (T_G b).2.1 := by decide +kernel
theorem ok_G : ∀ k, k < 8 → parseFieldDescriptor (T_G k).2.2.1 = some (ty_G k) := by decide +kernel
theorem in_G : ∀ w ∈ u_ws R_G T_G 8, w ∈ TT := by
  have h : (u_ws R_G T_G 8).all (fun w => decide (w ∈ lw_tbl) && goodWord w) = true := by decide +kernel
  intro w hw
  have h1 := List.all_eq_true.mp h w hw
  simp only [Bool.and_eq_true, decide_eq_true_eq] at h1
  exact List.mem_filter.mpr h1
def R_P : String := "TentPegs$Plans"
def T_P : u_T := fun k => match k with
  | 0 => ("TentPegs$Plans", "field", "LTentPegs$Field;", true)
  | 1 => ("TentPegs$Plans", "gale", "LTentPegs$Gale;", true)
  | 2 => ("TentPegs$Plans", "orders", "[I", true)
  | 3 => ("TentPegs$Plans", "needs", "[I", true)
  | 4 => ("TentPegs$Plans", "explained", "I", false)
  | _ => ("TentPegs$Plans", "firstExplained", "I", false)
def ty_P : Nat → FieldType := fun k => match k with
  | 0 => .object "TentPegs$Field"
  | 1 => .object "TentPegs$Gale"
  | 2 => .array .int
  | 3 => .array .int
  | 4 => .int
  | _ => .int
theorem nm_P : ∀ a, a < 6 → ∀ b, b < 6 → a ≠ b → (T_P a).2.1 ≠ (T_P b).2.1 := by decide +kernel
theorem ok_P : ∀ k, k < 6 → parseFieldDescriptor (T_P k).2.2.1 = some (ty_P k) := by decide +kernel
theorem in_P : ∀ w ∈ u_ws R_P T_P 6, w ∈ TT := by
  have h : (u_ws R_P T_P 6).all (fun w => decide (w ∈ lw_tbl) && goodWord w) = true := by decide +kernel
  intro w hw
  have h1 := List.all_eq_true.mp h w hw
  simp only [Bool.and_eq_true, decide_eq_true_eq] at h1
  exact List.mem_filter.mpr h1
def R_R : String := "TentPegs$Reader"
def T_R : u_T := fun k => match k with
  | 0 => ("TentPegs$Reader", "text", "[B", true)
  | 1 => ("TentPegs$Reader", "numbers", "[I", true)
  | 2 => ("TentPegs$Reader", "draft", "LTentPegs$Field;", true)
  | 3 => ("TentPegs$Reader", "length", "I", false)
  | 4 => ("TentPegs$Reader", "at", "I", false)
  | 5 => ("TentPegs$Reader", "start", "I", false)
  | 6 => ("TentPegs$Reader", "token", "I", false)
  | 7 => ("TentPegs$Reader", "number", "I", false)
  | 8 => ("TentPegs$Reader", "items", "I", false)
  | 9 => ("TentPegs$Reader", "fault", "I", false)
  | _ => ("TentPegs$Reader", "refused", "I", false)
def ty_R : Nat → FieldType := fun k => match k with
  | 0 => .array .byte
  | 1 => .array .int
  | 2 => .object "TentPegs$Field"
  | 3 => .int
  | 4 => .int
  | 5 => .int
  | 6 => .int
  | 7 => .int
  | 8 => .int
  | 9 => .int
  | _ => .int
theorem nm_R : ∀ a, a < 11 → ∀ b, b < 11 → a ≠ b → (T_R a).2.1 ≠ (T_R b).2.1 := by decide +kernel
theorem ok_R : ∀ k, k < 11 → parseFieldDescriptor (T_R k).2.2.1 = some (ty_R k) := by decide +kernel
theorem in_R : ∀ w ∈ u_ws R_R T_R 11, w ∈ TT := by
  have h : (u_ws R_R T_R 11).all (fun w => decide (w ∈ lw_tbl) && goodWord w) = true := by decide +kernel
  intro w hw
  have h1 := List.all_eq_true.mp h w hw
  simp only [Bool.and_eq_true, decide_eq_true_eq] at h1
  exact List.mem_filter.mpr h1
def R_T : String := "TentPegs"
def T_T : u_T := fun k => match k with
  | 0 => ("TentPegs", "field", "LTentPegs$Field;", true)
  | 1 => ("TentPegs", "gale", "LTentPegs$Gale;", true)
  | 2 => ("TentPegs", "plans", "LTentPegs$Plans;", true)
  | 3 => ("TentPegs", "text", "[B", true)
  | 4 => ("TentPegs", "reader", "LTentPegs$Reader;", true)
  | 5 => ("TentPegs", "images", "[LTentPegs$Field;", true)
  | 6 => ("TentPegs", "kept", "[Z", true)
  | 7 => ("TentPegs", "typed", "I", false)
  | 8 => ("TentPegs", "above", "I", false)
  | 9 => ("TentPegs", "below", "I", false)
  | 10 => ("TentPegs", "bads", "I", false)
  | 11 => ("TentPegs", "noes", "I", false)
  | _ => ("TentPegs", "fulls", "I", false)
def ty_T : Nat → FieldType := fun k => match k with
  | 0 => .object "TentPegs$Field"
  | 1 => .object "TentPegs$Gale"
  | 2 => .object "TentPegs$Plans"
  | 3 => .array .byte
  | 4 => .object "TentPegs$Reader"
  | 5 => .array (.object "TentPegs$Field")
  | 6 => .array .boolean
  | 7 => .int
  | 8 => .int
  | 9 => .int
  | 10 => .int
  | 11 => .int
  | _ => .int
theorem nm_T : ∀ a, a < 13 → ∀ b, b < 13 → a ≠ b → (T_T a).2.1 ≠ (T_T b).2.1 := by decide +kernel
theorem ok_T : ∀ k, k < 13 → parseFieldDescriptor (T_T k).2.2.1 = some (ty_T k) := by decide +kernel
theorem in_T : ∀ w ∈ u_ws R_T T_T 13, w ∈ TT := by
  have h : (u_ws R_T T_T 13).all (fun w => decide (w ∈ lw_tbl) && goodWord w) = true := by decide +kernel
  intro w hw
  have h1 := List.all_eq_true.mp h w hw
  simp only [Bool.and_eq_true, decide_eq_true_eq] at h1
  exact List.mem_filter.mpr h1
def R_M : String := "TentPegsModel"
def T_M : u_T := fun k => match k with
  | 0 => ("TentPegsModel", "thrown", "I", false)
  | 1 => ("TentPegsModel", "refused", "[I", true)
  | 2 => ("TentPegsModel", "field", "[I", true)
  | 3 => ("TentPegsModel", "aside", "[I", true)
  | 4 => ("TentPegsModel", "kept", "[I", true)
  | 5 => ("TentPegsModel", "isKept", "[Z", true)
  | 6 => ("TentPegsModel", "text", "[I", true)
  | 7 => ("TentPegsModel", "size", "I", false)
  | 8 => ("TentPegsModel", "at", "I", false)
  | 9 => ("TentPegsModel", "start", "I", false)
  | 10 => ("TentPegsModel", "token", "I", false)
  | 11 => ("TentPegsModel", "value", "J", false)
  | 12 => ("TentPegsModel", "item", "[I", true)
  | 13 => ("TentPegsModel", "items", "I", false)
  | 14 => ("TentPegsModel", "pull", "[I", true)
  | 15 => ("TentPegsModel", "row", "[I", true)
  | 16 => ("TentPegsModel", "gone", "I", false)
  | 17 => ("TentPegsModel", "above", "J", false)
  | 18 => ("TentPegsModel", "below", "J", false)
  | 19 => ("TentPegsModel", "orders", "[I", true)
  | 20 => ("TentPegsModel", "drawn", "J", false)
  | _ => ("TentPegsModel", "lostBehind", "I", false)
def ty_M : Nat → FieldType := fun k => match k with
  | 0 => .int
  | 1 => .array .int
  | 2 => .array .int
  | 3 => .array .int
  | 4 => .array .int
  | 5 => .array .boolean
  | 6 => .array .int
  | 7 => .int
  | 8 => .int
  | 9 => .int
  | 10 => .int
  | 11 => .long
  | 12 => .array .int
  | 13 => .int
  | 14 => .array .int
  | 15 => .array .int
  | 16 => .int
  | 17 => .long
  | 18 => .long
  | 19 => .array .int
  | 20 => .long
  | _ => .int
theorem nm_M : ∀ a, a < 22 → ∀ b, b < 22 → a ≠ b → (T_M a).2.1 ≠ (T_M b).2.1 := by decide +kernel
theorem ok_M : ∀ k, k < 22 → parseFieldDescriptor (T_M k).2.2.1 = some (ty_M k) := by decide +kernel
theorem in_M : ∀ w ∈ u_ws R_M T_M 22, w ∈ TT := by
  have h : (u_ws R_M T_M 22).all (fun w => decide (w ∈ lw_tbl) && goodWord w) = true := by decide +kernel
  intro w hw
  have h1 := List.all_eq_true.mp h w hw
  simp only [Bool.and_eq_true, decide_eq_true_eq] at h1
  exact List.mem_filter.mpr h1
abbrev classes : List vw_C := [(R_F, T_F, 10), (R_G, T_G, 8), (R_P, T_P, 6), (R_R, T_R, 11), (R_T, T_T, 13), (R_M, T_M, 22)]
abbrev tys (cs : Nat → ClassId) : List (ClassId × FieldType) := [(cs 0, .int), (cs 1, .byte), (cs 2, .boolean), (cs 3, .object "TentPegs$Field")]
abbrev Mem : Type := (Nat → Nat → Int32) × (Nat → Int64)
def stI (μ : Mem) (k j : Nat) (v : Int32) : Mem := (fun k1 => cond (Nat.beq k1 k) (upd (μ.1 k1) j v) (μ.1 k1), μ.2)
def stL (μ : Mem) (j : Nat) (v : Int64) : Mem := (μ.1, fun j1 => if j1 = j then v else μ.2 j1)
/-- a whole row anew -/
def stR (μ : Mem) (k : Nat) (f : Nat → Int32) : Mem := (fun k1 => cond (Nat.beq k1 k) f (μ.1 k1), μ.2)
def sub (b : Nat) (μ : Mem) : Mem := (fun k => μ.1 (b + k), μ.2)
/-- six rows from b on out of φ (its rows from d on) -/
def put6 (b d : Nat) (μ φ : Mem) : Mem := (fun k => cond (Nat.ble b k && Nat.blt k (b + 6)) (φ.1 (k - b + d)) (μ.1 k), μ.2)
/-- two Fields side by side -/
def two (b d : Nat) (μ : Mem) : Mem := (fun k => cond (Nat.blt k 6) (μ.1 (b + k)) (μ.1 (d + (k - 6))), μ.2)
def off (b : Nat) (a : Nat → Nat) : Nat → Nat := fun k => a (b + k)
def off2 (b d : Nat) (a : Nat → Nat) : Nat → Nat := fun k => cond (Nat.blt k 6) (a (b + k)) (a (d + (k - 6)))
def WF (a : Nat → Nat) (cs : Nat → ClassId) (μ : Mem) : va_W := [(a 0, .inr (0, [.int (μ.1 0 0), .int (μ.1 0 1), .int (μ.1 0 2), .int (μ.1 0 3), .int (μ.1 0 4), .ref (a 1), .ref (a 2), .ref (a 3), .ref (a 4), .ref (a 5)])),
  (a 1, .inl (cs 0, 8, .inl (μ.1 1))),
  (a 2, .inl (cs 0, 8, .inl (μ.1 2))),
  (a 3, .inl (cs 0, 8, .inl (μ.1 3))),
  (a 4, .inl (cs 0, 8, .inl (μ.1 4))),
  (a 5, .inl (cs 0, 10, .inl (μ.1 5)))]
def AF (a : Nat → Nat) : Nat → Prop := fun q => q ∈ [a 0, a 1, a 2, a 3, a 4, a 5]
def WFF (a : Nat → Nat) (cs : Nat → ClassId) (μ : Mem) : va_W := [(a 0, .inr (0, [.int (μ.1 0 0), .int (μ.1 0 1), .int (μ.1 0 2), .int (μ.1 0 3), .int (μ.1 0 4), .ref (a 1), .ref (a 2), .ref (a 3), .ref (a 4), .ref (a 5)])),
  (a 1, .inl (cs 0, 8, .inl (μ.1 1))),
  (a 2, .inl (cs 0, 8, .inl (μ.1 2))),
  (a 3, .inl (cs 0, 8, .inl (μ.1 3))),
  (a 4, .inl (cs 0, 8, .inl (μ.1 4))),
  (a 5, .inl (cs 0, 10, .inl (μ.1 5))),
  (a 6, .inr (0, [.int (μ.1 6 0), .int (μ.1 6 1), .int (μ.1 6 2), .int (μ.1 6 3), .int (μ.1 6 4), .ref (a 7), .ref (a 8), .ref (a 9), .ref (a 10), .ref (a 11)])),
  (a 7, .inl (cs 0, 8, .inl (μ.1 7))),
  (a 8, .inl (cs 0, 8, .inl (μ.1 8))),
  (a 9, .inl (cs 0, 8, .inl (μ.1 9))),
  (a 10, .inl (cs 0, 8, .inl (μ.1 10))),
  (a 11, .inl (cs 0, 10, .inl (μ.1 11)))]
def AFF (a : Nat → Nat) : Nat → Prop := fun q => q ∈ [a 0, a 1, a 2, a 3, a 4, a 5, a 6, a 7, a 8, a 9, a 10, a 11]
def WC (a : Nat → Nat) (cs : Nat → ClassId) (μ : Mem) : va_W := [(a 0, .inr (4, [.ref (a 1), .ref (a 7), .ref (a 10), .ref (a 13), .ref (a 14), .ref (a 22), .ref (a 35), .int (μ.1 0 7), .int (μ.1 0 8), .int (μ.1 0 9), .int (μ.1 0 10), .int (μ.1 0 11), .int (μ.1 0 12)])),
  (a 1, .inr (0, [.int (μ.1 1 0), .int (μ.1 1 1), .int (μ.1 1 2), .int (μ.1 1 3), .int (μ.1 1 4), .ref (a 2), .ref (a 3), .ref (a 4), .ref (a 5), .ref (a 6)])),
  (a 2, .inl (cs 0, 8, .inl (μ.1 2))),
  (a 3, .inl (cs 0, 8, .inl (μ.1 3))),
  (a 4, .inl (cs 0, 8, .inl (μ.1 4))),
  (a 5, .inl (cs 0, 8, .inl (μ.1 5))),
  (a 6, .inl (cs 0, 10, .inl (μ.1 6))),
  (a 7, .inr (1, [.ref (a 1), .ref (a 8), .ref (a 9), .int (μ.1 7 3), .int (μ.1 7 4), .int (μ.1 7 5), .int (μ.1 7 6), .int (μ.1 7 7)])),
  (a 8, .inl (cs 0, 8, .inl (μ.1 8))),
  (a 9, .inl (cs 0, 8, .inl (μ.1 9))),
  (a 10, .inr (2, [.ref (a 1), .ref (a 7), .ref (a 11), .ref (a 12), .int (μ.1 10 4), .int (μ.1 10 5)])),
  (a 11, .inl (cs 0, 256, .inl (μ.1 11))),
  (a 12, .inl (cs 0, 8, .inl (μ.1 12))),
  (a 13, .inl (cs 1, 150, .inl (μ.1 13))),
  (a 14, .inr (3, [.ref (a 13), .ref (a 15), .ref (a 16), .int (μ.1 14 3), .int (μ.1 14 4), .int (μ.1 14 5), .int (μ.1 14 6), .int (μ.1 14 7), .int (μ.1 14 8), .int (μ.1 14 9), .int (μ.1 14 10)])),
  (a 15, .inl (cs 0, 4, .inl (μ.1 15))),
  (a 16, .inr (0, [.int (μ.1 16 0), .int (μ.1 16 1), .int (μ.1 16 2), .int (μ.1 16 3), .int (μ.1 16 4), .ref (a 17), .ref (a 18), .ref (a 19), .ref (a 20), .ref (a 21)])),
  (a 17, .inl (cs 0, 8, .inl (μ.1 17))),
  (a 18, .inl (cs 0, 8, .inl (μ.1 18))),
  (a 19, .inl (cs 0, 8, .inl (μ.1 19))),
  (a 20, .inl (cs 0, 8, .inl (μ.1 20))),
  (a 21, .inl (cs 0, 10, .inl (μ.1 21))),
  (a 22, .inl (cs 3, 2, .inr (.inr (.inr (.inr (fun j => some (a (23 + 6 * j)))))))),
  (a 23, .inr (0, [.int (μ.1 23 0), .int (μ.1 23 1), .int (μ.1 23 2), .int (μ.1 23 3), .int (μ.1 23 4), .ref (a 24), .ref (a 25), .ref (a 26), .ref (a 27), .ref (a 28)])),
  (a 24, .inl (cs 0, 8, .inl (μ.1 24))),
  (a 25, .inl (cs 0, 8, .inl (μ.1 25))),
  (a 26, .inl (cs 0, 8, .inl (μ.1 26))),
  (a 27, .inl (cs 0, 8, .inl (μ.1 27))),
  (a 28, .inl (cs 0, 10, .inl (μ.1 28))),
  (a 29, .inr (0, [.int (μ.1 29 0), .int (μ.1 29 1), .int (μ.1 29 2), .int (μ.1 29 3), .int (μ.1 29 4), .ref (a 30), .ref (a 31), .ref (a 32), .ref (a 33), .ref (a 34)])),
  (a 30, .inl (cs 0, 8, .inl (μ.1 30))),
  (a 31, .inl (cs 0, 8, .inl (μ.1 31))),
  (a 32, .inl (cs 0, 8, .inl (μ.1 32))),
  (a 33, .inl (cs 0, 8, .inl (μ.1 33))),
  (a 34, .inl (cs 0, 10, .inl (μ.1 34))),
  (a 35, .inl (cs 2, 2, .inl (μ.1 35)))]
def AC (a : Nat → Nat) : Nat → Prop := fun q => q ∈ [a 0, a 1, a 2, a 3, a 4, a 5, a 6, a 7, a 8, a 9, a 10, a 11, a 12, a 13, a 14, a 15, a 16, a 17, a 18, a 19, a 20, a 21, a 22, a 23, a 24, a 25, a 26, a 27, a 28, a 29, a 30, a 31, a 32, a 33, a 34, a 35]
def WM (a : Nat → Nat) (cs : Nat → ClassId) (μ : Mem) : va_W := [(a 0, .inr (5, [.int (μ.1 0 0), .ref (a 1), .ref (a 2), .ref (a 3), .ref (a 4), .ref (a 5), .ref (a 6), .int (μ.1 0 7), .int (μ.1 0 8), .int (μ.1 0 9), .int (μ.1 0 10), .long (μ.2 11), .ref (a 7), .int (μ.1 0 13), .ref (a 8), .ref (a 9), .int (μ.1 0 16), .long (μ.2 17), .long (μ.2 18), .ref (a 10), .long (μ.2 20), .int (μ.1 0 21)])),
  (a 1, .inl (cs 0, 3, .inl (μ.1 1))),
  (a 2, .inl (cs 0, 47, .inl (μ.1 2))),
  (a 3, .inl (cs 0, 47, .inl (μ.1 3))),
  (a 4, .inl (cs 0, 94, .inl (μ.1 4))),
  (a 5, .inl (cs 2, 2, .inl (μ.1 5))),
  (a 6, .inl (cs 0, 150, .inl (μ.1 6))),
  (a 7, .inl (cs 0, 200, .inl (μ.1 7))),
  (a 8, .inl (cs 0, 8, .inl (μ.1 8))),
  (a 9, .inl (cs 0, 8, .inl (μ.1 9))),
  (a 10, .inl (cs 0, 256, .inl (μ.1 10)))]
def AM (a : Nat → Nat) : Nat → Prop := fun q => q ∈ [a 0, a 1, a 2, a 3, a 4, a 5, a 6, a 7, a 8, a 9, a 10]
def NNl : List (String × Nat × MethodName × String) := [("TentPegs$Field", 31, ⟨"TentPegs", "within", "(III)Z"⟩, "TentPegs"), ("TentPegs$Field", 59, ⟨"TentPegs", "has", "(II)Z"⟩, "TentPegs"), ("TentPegs$Field", 63, ⟨"TentPegs", "with", "(IIZ)I"⟩, "TentPegs"), ("TentPegs$Field", 67, ⟨"TentPegs", "isWay", "(I)Z"⟩, "TentPegs"), ("TentPegs$Reader", 175, ⟨"TentPegs", "within", "(III)Z"⟩, "TentPegs"), ("TentPegs$Reader", 114, ⟨"TentPegs", "isWay", "(I)Z"⟩, "TentPegs"), ("TentPegs$Reader", 136, ⟨"TentPegs", "has", "(II)Z"⟩, "TentPegs"), ("TentPegs$Reader", 139, ⟨"TentPegs", "with", "(IIZ)I"⟩, "TentPegs"), ("TentPegs$Gale", 63, ⟨"TentPegs", "has", "(II)Z"⟩, "TentPegs"), ("TentPegs$Gale", 106, ⟨"TentPegs", "with", "(IIZ)I"⟩, "TentPegs"), ("TentPegs$Plans", 33, ⟨"TentPegs", "has", "(II)Z"⟩, "TentPegs"), ("TentPegs$Plans", 102, ⟨"TentPegs", "isLost", "(I)Z"⟩, "TentPegs")]
def Nst (U : State) : Prop := ∀ q ∈ NNl, va_Nw (.methodLinkNest q.1 q.2.1 q.2.2.1 q.2.2.2) U
theorem Nst.warm {s U : State} (hW : s.WarmedH U.vm) (h : Nst s) : Nst U := fun q hq => va_Nw.warmM hW (h q hq)
theorem Nst.same {u U : State} (hv : u.vm = U.vm) (h : Nst u) : Nst U := fun q hq => va_Nw.same rfl hv (h q hq)
theorem Nst.at (i : Nat) {q : String × Nat × MethodName × String} {U : State} (h : Nst U) (hq : NNl[i]? = some q) : va_Nw (.methodLinkNest q.1 q.2.1 q.2.2.1 q.2.2.2) U := h q (List.mem_of_getElem? hq)
/-! combinators of the decompiled functions -/
def bnd {α β : Type} (x : Option α) (k : α → Option β) : Option β := match x with
  | none => none
  | some v => k v
theorem bnd_some {α β : Type} {x : Option α} {k : α → Option β} {v : β} (h : bnd x k = some v) : ∃ u, x = some u ∧ k u = some v := by
  cases x with
  | none => cases h
  | some u => exact ⟨u, rfl, h⟩
def inb (i : Int32) (n : Nat) : Bool := decide (¬ (i < 0 ∨ n ≤ i.toNatClampNeg))
theorem inb_in {i : Int32} {n : Nat} (h : inb i n = true) : vp_in i n := by
  have h1 : decide (¬ (i < 0 ∨ n ≤ i.toNatClampNeg)) = true := h
  have h2 : ¬ (i < 0 ∨ n ≤ i.toNatClampNeg) := of_decide_eq_true h1
  exact h2
def gd {α : Type} (b : Bool) (k : Option α) : Option α := cond b k none
theorem gd_some {α : Type} {b : Bool} {k : Option α} {v : α} (h : gd b k = some v) : b = true ∧ k = some v := by
  cases b with
  | false => cases h
  | true => exact ⟨rfl, h⟩
theorem ite_t {α : Type} {c : Prop} [Decidable c] {x y : α} {v : α} (h : (if c then x else y) = v) (hc : c) : x = v := by rw [if_pos hc] at h; exact h
theorem ite_f {α : Type} {c : Prop} [Decidable c] {x y : α} {v : α} (h : (if c then x else y) = v) (hc : ¬ c) : y = v := by rw [if_neg hc] at h; exact h
def iter {α : Type} (f : α → α) (z : α) : Nat → α
  | 0 => z
  | n + 1 => f (iter f z n)
theorem iter_ind {α : Type} (P : α → Prop) {f : α → α} {z : α} (h0 : P z) (hs : ∀ g, P g → P (f g)) : ∀ n, P (iter f z n) := by
  intro n
  induction n with
  | zero => exact h0
  | succ n ih => exact hs _ ih
def NF : Nat := 1000
theorem none_no {α : Type} {v : α} {P : Prop} (h : (none : Option α) = some v) : P := by cases h
theorem fst_of {α β : Type} {a c : α} {b d : β} (h : some (a, b) = some (c, d)) : a = c := (Prod.mk.inj (Option.some.inj h)).1
theorem snd_of {α β : Type} {a c : α} {b d : β} (h : some (a, b) = some (c, d)) : b = d := (Prod.mk.inj (Option.some.inj h)).2
theorem ne_toInt {x k : Int32} {z : Int} (hk : k.toInt = z) (h : ¬ x = k) : x.toInt ≠ z := fun e => h (Int32.toInt_inj.mp (e.trans hk.symm))
theorem D_adr {A : Nat → Prop} {ws ws' : va_W} (h : va_D A ws) (he : ws'.map (fun q => q.1) = ws.map (fun q => q.1)) : va_D A ws' := by
  have key : ∀ (k : Nat) (q : Nat × va_E), ws'[k]? = some q → ∃ q0 : Nat × va_E, ws[k]? = some q0 ∧ q0.1 = q.1 := by
    intro k q hq
    have h1 : (ws'.map (fun q => q.1))[k]? = some q.1 := by rw [List.getElem?_map, hq]; rfl
    rw [he, List.getElem?_map] at h1
    cases h2 : ws[k]? with
    | none => rw [h2] at h1; cases h1
    | some q0 => rw [h2] at h1; exact ⟨q0, rfl, Option.some.inj h1⟩
  refine ⟨fun i j p q hi hj hpq => ?_, fun k q hk => ?_⟩
  · obtain ⟨p0, a1, a2⟩ := key i p hi
    obtain ⟨q0, b1, b2⟩ := key j q hj
    exact h.1 i j p0 q0 a1 b1 (by rw [a2, b2]; exact hpq)
  · obtain ⟨q0, b1, b2⟩ := key k q hk
    rw [← b2]; exact h.2 k q0 b1
theorem at_of_map {ws wc : va_W} {is : List Nat} (hC : is.map (fun i => ws[i]?) = wc.map some) {k : Nat} {q : Nat × va_E} (hq : wc[k]? = some q) : ∃ i, is[k]? = some i ∧ ws[i]? = some q := by
  have h1 : (wc.map some)[k]? = some (some q) := by rw [List.getElem?_map, hq]; rfl
  rw [← hC, List.getElem?_map] at h1
  cases h2 : is[k]? with
  | none => rw [h2] at h1; cases h1
  | some i => rw [h2] at h1; exact ⟨i, rfl, Option.some.inj h1⟩
theorem my_join {A : Nat → Prop} {D : va_G} {ws wc wr w1 : va_W} {H H1 : Heap} (hP : va_P D classes ws H) (hD : va_D A ws) (isC isR : List Nat) (hC : isC.map (fun i => ws[i]?) = wc.map some) (hR : isR.map (fun i => ws[i]?) = wr.map some) (hdis : ∀ i ∈ isR, i ∉ isC)
    (hk : ∀ q : Nat, q < H.size → q ∉ wc.map (fun q => q.1) → H1[q]? = H[q]?) (hP1 : va_P D classes w1 H1) : va_P D classes (wr ++ w1) H1 := by
  refine va_P.app (fun k q hq => ?_) hP1
  obtain ⟨i, hi, hwi⟩ := at_of_map hR hq
  refine (hP i q hwi).kept (hk q.1 (hP i q hwi).lt ?_)
  intro hm
  obtain ⟨q', hq', e⟩ := List.mem_map.mp hm
  obtain ⟨j, hj⟩ := List.mem_iff_getElem?.mp hq'
  obtain ⟨i', hi', hwi'⟩ := at_of_map hC hj
  have : i = i' := hD.1 i i' q q' hwi hwi' e.symm
  subst this
  exact hdis i (List.mem_of_getElem? hi) (List.mem_of_getElem? hi')

