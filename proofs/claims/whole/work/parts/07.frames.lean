theorem set_WF_1 (a : Nat → Nat) (cs : Nat → ClassId) (μ : Mem) (j : Nat) (v : Int32) : (WF a cs μ).set 1 (a 1, .inl (cs 0, 8, .inl (upd (μ.1 1) j v))) = WF a cs (stI μ 1 j v) := rfl
theorem setR_WF_1 (a : Nat → Nat) (cs : Nat → ClassId) (μ : Mem) (f : Nat → Int32) : (WF a cs μ).set 1 (a 1, .inl (cs 0, 8, .inl f)) = WF a cs (stR μ 1 f) := rfl
theorem set_WF_2 (a : Nat → Nat) (cs : Nat → ClassId) (μ : Mem) (j : Nat) (v : Int32) : (WF a cs μ).set 2 (a 2, .inl (cs 0, 8, .inl (upd (μ.1 2) j v))) = WF a cs (stI μ 2 j v) := rfl
theorem setR_WF_2 (a : Nat → Nat) (cs : Nat → ClassId) (μ : Mem) (f : Nat → Int32) : (WF a cs μ).set 2 (a 2, .inl (cs 0, 8, .inl f)) = WF a cs (stR μ 2 f) := rfl
theorem set_WF_3 (a : Nat → Nat) (cs : Nat → ClassId) (μ : Mem) (j : Nat) (v : Int32) : (WF a cs μ).set 3 (a 3, .inl (cs 0, 8, .inl (upd (μ.1 3) j v))) = WF a cs (stI μ 3 j v) := rfl
theorem setR_WF_3 (a : Nat → Nat) (cs : Nat → ClassId) (μ : Mem) (f : Nat → Int32) : (WF a cs μ).set 3 (a 3, .inl (cs 0, 8, .inl f)) = WF a cs (stR μ 3 f) := rfl
theorem set_WF_4 (a : Nat → Nat) (cs : Nat → ClassId) (μ : Mem) (j : Nat) (v : Int32) : (WF a cs μ).set 4 (a 4, .inl (cs 0, 8, .inl (upd (μ.1 4) j v))) = WF a cs (stI μ 4 j v) := rfl
theorem setR_WF_4 (a : Nat → Nat) (cs : Nat → ClassId) (μ : Mem) (f : Nat → Int32) : (WF a cs μ).set 4 (a 4, .inl (cs 0, 8, .inl f)) = WF a cs (stR μ 4 f) := rfl
theorem set_WF_5 (a : Nat → Nat) (cs : Nat → ClassId) (μ : Mem) (j : Nat) (v : Int32) : (WF a cs μ).set 5 (a 5, .inl (cs 0, 10, .inl (upd (μ.1 5) j v))) = WF a cs (stI μ 5 j v) := rfl
theorem setR_WF_5 (a : Nat → Nat) (cs : Nat → ClassId) (μ : Mem) (f : Nat → Int32) : (WF a cs μ).set 5 (a 5, .inl (cs 0, 10, .inl f)) = WF a cs (stR μ 5 f) := rfl
theorem set_WFF_1 (a : Nat → Nat) (cs : Nat → ClassId) (μ : Mem) (j : Nat) (v : Int32) : (WFF a cs μ).set 1 (a 1, .inl (cs 0, 8, .inl (upd (μ.1 1) j v))) = WFF a cs (stI μ 1 j v) := rfl
theorem setR_WFF_1 (a : Nat → Nat) (cs : Nat → ClassId) (μ : Mem) (f : Nat → Int32) : (WFF a cs μ).set 1 (a 1, .inl (cs 0, 8, .inl f)) = WFF a cs (stR μ 1 f) := rfl
theorem set_WFF_2 (a : Nat → Nat) (cs : Nat → ClassId) (μ : Mem) (j : Nat) (v : Int32) : (WFF a cs μ).set 2 (a 2, .inl (cs 0, 8, .inl (upd (μ.1 2) j v))) = WFF a cs (stI μ 2 j v) := rfl
theorem setR_WFF_2 (a : Nat → Nat) (cs : Nat → ClassId) (μ : Mem) (f : Nat → Int32) : (WFF a cs μ).set 2 (a 2, .inl (cs 0, 8, .inl f)) = WFF a cs (stR μ 2 f) := rfl
theorem set_WFF_3 (a : Nat → Nat) (cs : Nat → ClassId) (μ : Mem) (j : Nat) (v : Int32) : (WFF a cs μ).set 3 (a 3, .inl (cs 0, 8, .inl (upd (μ.1 3) j v))) = WFF a cs (stI μ 3 j v) := rfl
theorem setR_WFF_3 (a : Nat → Nat) (cs : Nat → ClassId) (μ : Mem) (f : Nat → Int32) : (WFF a cs μ).set 3 (a 3, .inl (cs 0, 8, .inl f)) = WFF a cs (stR μ 3 f) := rfl
theorem set_WFF_4 (a : Nat → Nat) (cs : Nat → ClassId) (μ : Mem) (j : Nat) (v : Int32) : (WFF a cs μ).set 4 (a 4, .inl (cs 0, 8, .inl (upd (μ.1 4) j v))) = WFF a cs (stI μ 4 j v) := rfl
theorem setR_WFF_4 (a : Nat → Nat) (cs : Nat → ClassId) (μ : Mem) (f : Nat → Int32) : (WFF a cs μ).set 4 (a 4, .inl (cs 0, 8, .inl f)) = WFF a cs (stR μ 4 f) := rfl
theorem set_WFF_5 (a : Nat → Nat) (cs : Nat → ClassId) (μ : Mem) (j : Nat) (v : Int32) : (WFF a cs μ).set 5 (a 5, .inl (cs 0, 10, .inl (upd (μ.1 5) j v))) = WFF a cs (stI μ 5 j v) := rfl
theorem setR_WFF_5 (a : Nat → Nat) (cs : Nat → ClassId) (μ : Mem) (f : Nat → Int32) : (WFF a cs μ).set 5 (a 5, .inl (cs 0, 10, .inl f)) = WFF a cs (stR μ 5 f) := rfl
theorem set_WFF_7 (a : Nat → Nat) (cs : Nat → ClassId) (μ : Mem) (j : Nat) (v : Int32) : (WFF a cs μ).set 7 (a 7, .inl (cs 0, 8, .inl (upd (μ.1 7) j v))) = WFF a cs (stI μ 7 j v) := rfl
theorem setR_WFF_7 (a : Nat → Nat) (cs : Nat → ClassId) (μ : Mem) (f : Nat → Int32) : (WFF a cs μ).set 7 (a 7, .inl (cs 0, 8, .inl f)) = WFF a cs (stR μ 7 f) := rfl
theorem set_WFF_8 (a : Nat → Nat) (cs : Nat → ClassId) (μ : Mem) (j : Nat) (v : Int32) : (WFF a cs μ).set 8 (a 8, .inl (cs 0, 8, .inl (upd (μ.1 8) j v))) = WFF a cs (stI μ 8 j v) := rfl
theorem setR_WFF_8 (a : Nat → Nat) (cs : Nat → ClassId) (μ : Mem) (f : Nat → Int32) : (WFF a cs μ).set 8 (a 8, .inl (cs 0, 8, .inl f)) = WFF a cs (stR μ 8 f) := rfl
theorem set_WFF_9 (a : Nat → Nat) (cs : Nat → ClassId) (μ : Mem) (j : Nat) (v : Int32) : (WFF a cs μ).set 9 (a 9, .inl (cs 0, 8, .inl (upd (μ.1 9) j v))) = WFF a cs (stI μ 9 j v) := rfl
theorem setR_WFF_9 (a : Nat → Nat) (cs : Nat → ClassId) (μ : Mem) (f : Nat → Int32) : (WFF a cs μ).set 9 (a 9, .inl (cs 0, 8, .inl f)) = WFF a cs (stR μ 9 f) := rfl
theorem set_WFF_10 (a : Nat → Nat) (cs : Nat → ClassId) (μ : Mem) (j : Nat) (v : Int32) : (WFF a cs μ).set 10 (a 10, .inl (cs 0, 8, .inl (upd (μ.1 10) j v))) = WFF a cs (stI μ 10 j v) := rfl
theorem setR_WFF_10 (a : Nat → Nat) (cs : Nat → ClassId) (μ : Mem) (f : Nat → Int32) : (WFF a cs μ).set 10 (a 10, .inl (cs 0, 8, .inl f)) = WFF a cs (stR μ 10 f) := rfl
theorem set_WFF_11 (a : Nat → Nat) (cs : Nat → ClassId) (μ : Mem) (j : Nat) (v : Int32) : (WFF a cs μ).set 11 (a 11, .inl (cs 0, 10, .inl (upd (μ.1 11) j v))) = WFF a cs (stI μ 11 j v) := rfl
theorem setR_WFF_11 (a : Nat → Nat) (cs : Nat → ClassId) (μ : Mem) (f : Nat → Int32) : (WFF a cs μ).set 11 (a 11, .inl (cs 0, 10, .inl f)) = WFF a cs (stR μ 11 f) := rfl
theorem set_WC_2 (a : Nat → Nat) (cs : Nat → ClassId) (μ : Mem) (j : Nat) (v : Int32) : (WC a cs μ).set 2 (a 2, .inl (cs 0, 8, .inl (upd (μ.1 2) j v))) = WC a cs (stI μ 2 j v) := rfl
theorem setR_WC_2 (a : Nat → Nat) (cs : Nat → ClassId) (μ : Mem) (f : Nat → Int32) : (WC a cs μ).set 2 (a 2, .inl (cs 0, 8, .inl f)) = WC a cs (stR μ 2 f) := rfl
theorem set_WC_3 (a : Nat → Nat) (cs : Nat → ClassId) (μ : Mem) (j : Nat) (v : Int32) : (WC a cs μ).set 3 (a 3, .inl (cs 0, 8, .inl (upd (μ.1 3) j v))) = WC a cs (stI μ 3 j v) := rfl
theorem setR_WC_3 (a : Nat → Nat) (cs : Nat → ClassId) (μ : Mem) (f : Nat → Int32) : (WC a cs μ).set 3 (a 3, .inl (cs 0, 8, .inl f)) = WC a cs (stR μ 3 f) := rfl
theorem set_WC_4 (a : Nat → Nat) (cs : Nat → ClassId) (μ : Mem) (j : Nat) (v : Int32) : (WC a cs μ).set 4 (a 4, .inl (cs 0, 8, .inl (upd (μ.1 4) j v))) = WC a cs (stI μ 4 j v) := rfl
theorem setR_WC_4 (a : Nat → Nat) (cs : Nat → ClassId) (μ : Mem) (f : Nat → Int32) : (WC a cs μ).set 4 (a 4, .inl (cs 0, 8, .inl f)) = WC a cs (stR μ 4 f) := rfl
theorem set_WC_5 (a : Nat → Nat) (cs : Nat → ClassId) (μ : Mem) (j : Nat) (v : Int32) : (WC a cs μ).set 5 (a 5, .inl (cs 0, 8, .inl (upd (μ.1 5) j v))) = WC a cs (stI μ 5 j v) := rfl
theorem setR_WC_5 (a : Nat → Nat) (cs : Nat → ClassId) (μ : Mem) (f : Nat → Int32) : (WC a cs μ).set 5 (a 5, .inl (cs 0, 8, .inl f)) = WC a cs (stR μ 5 f) := rfl
theorem set_WC_6 (a : Nat → Nat) (cs : Nat → ClassId) (μ : Mem) (j : Nat) (v : Int32) : (WC a cs μ).set 6 (a 6, .inl (cs 0, 10, .inl (upd (μ.1 6) j v))) = WC a cs (stI μ 6 j v) := rfl
theorem setR_WC_6 (a : Nat → Nat) (cs : Nat → ClassId) (μ : Mem) (f : Nat → Int32) : (WC a cs μ).set 6 (a 6, .inl (cs 0, 10, .inl f)) = WC a cs (stR μ 6 f) := rfl
theorem set_WC_8 (a : Nat → Nat) (cs : Nat → ClassId) (μ : Mem) (j : Nat) (v : Int32) : (WC a cs μ).set 8 (a 8, .inl (cs 0, 8, .inl (upd (μ.1 8) j v))) = WC a cs (stI μ 8 j v) := rfl
theorem setR_WC_8 (a : Nat → Nat) (cs : Nat → ClassId) (μ : Mem) (f : Nat → Int32) : (WC a cs μ).set 8 (a 8, .inl (cs 0, 8, .inl f)) = WC a cs (stR μ 8 f) := rfl
theorem set_WC_9 (a : Nat → Nat) (cs : Nat → ClassId) (μ : Mem) (j : Nat) (v : Int32) : (WC a cs μ).set 9 (a 9, .inl (cs 0, 8, .inl (upd (μ.1 9) j v))) = WC a cs (stI μ 9 j v) := rfl
theorem setR_WC_9 (a : Nat → Nat) (cs : Nat → ClassId) (μ : Mem) (f : Nat → Int32) : (WC a cs μ).set 9 (a 9, .inl (cs 0, 8, .inl f)) = WC a cs (stR μ 9 f) := rfl
theorem set_WC_11 (a : Nat → Nat) (cs : Nat → ClassId) (μ : Mem) (j : Nat) (v : Int32) : (WC a cs μ).set 11 (a 11, .inl (cs 0, 256, .inl (upd (μ.1 11) j v))) = WC a cs (stI μ 11 j v) := rfl
theorem setR_WC_11 (a : Nat → Nat) (cs : Nat → ClassId) (μ : Mem) (f : Nat → Int32) : (WC a cs μ).set 11 (a 11, .inl (cs 0, 256, .inl f)) = WC a cs (stR μ 11 f) := rfl
theorem set_WC_12 (a : Nat → Nat) (cs : Nat → ClassId) (μ : Mem) (j : Nat) (v : Int32) : (WC a cs μ).set 12 (a 12, .inl (cs 0, 8, .inl (upd (μ.1 12) j v))) = WC a cs (stI μ 12 j v) := rfl
theorem setR_WC_12 (a : Nat → Nat) (cs : Nat → ClassId) (μ : Mem) (f : Nat → Int32) : (WC a cs μ).set 12 (a 12, .inl (cs 0, 8, .inl f)) = WC a cs (stR μ 12 f) := rfl
theorem set_WC_13 (a : Nat → Nat) (cs : Nat → ClassId) (μ : Mem) (j : Nat) (v : Int32) : (WC a cs μ).set 13 (a 13, .inl (cs 1, 150, .inl (upd (μ.1 13) j v))) = WC a cs (stI μ 13 j v) := rfl
theorem setR_WC_13 (a : Nat → Nat) (cs : Nat → ClassId) (μ : Mem) (f : Nat → Int32) : (WC a cs μ).set 13 (a 13, .inl (cs 1, 150, .inl f)) = WC a cs (stR μ 13 f) := rfl
theorem set_WC_15 (a : Nat → Nat) (cs : Nat → ClassId) (μ : Mem) (j : Nat) (v : Int32) : (WC a cs μ).set 15 (a 15, .inl (cs 0, 4, .inl (upd (μ.1 15) j v))) = WC a cs (stI μ 15 j v) := rfl
theorem setR_WC_15 (a : Nat → Nat) (cs : Nat → ClassId) (μ : Mem) (f : Nat → Int32) : (WC a cs μ).set 15 (a 15, .inl (cs 0, 4, .inl f)) = WC a cs (stR μ 15 f) := rfl
theorem set_WC_17 (a : Nat → Nat) (cs : Nat → ClassId) (μ : Mem) (j : Nat) (v : Int32) : (WC a cs μ).set 17 (a 17, .inl (cs 0, 8, .inl (upd (μ.1 17) j v))) = WC a cs (stI μ 17 j v) := rfl
theorem setR_WC_17 (a : Nat → Nat) (cs : Nat → ClassId) (μ : Mem) (f : Nat → Int32) : (WC a cs μ).set 17 (a 17, .inl (cs 0, 8, .inl f)) = WC a cs (stR μ 17 f) := rfl
theorem set_WC_18 (a : Nat → Nat) (cs : Nat → ClassId) (μ : Mem) (j : Nat) (v : Int32) : (WC a cs μ).set 18 (a 18, .inl (cs 0, 8, .inl (upd (μ.1 18) j v))) = WC a cs (stI μ 18 j v) := rfl
theorem setR_WC_18 (a : Nat → Nat) (cs : Nat → ClassId) (μ : Mem) (f : Nat → Int32) : (WC a cs μ).set 18 (a 18, .inl (cs 0, 8, .inl f)) = WC a cs (stR μ 18 f) := rfl
theorem set_WC_19 (a : Nat → Nat) (cs : Nat → ClassId) (μ : Mem) (j : Nat) (v : Int32) : (WC a cs μ).set 19 (a 19, .inl (cs 0, 8, .inl (upd (μ.1 19) j v))) = WC a cs (stI μ 19 j v) := rfl
theorem setR_WC_19 (a : Nat → Nat) (cs : Nat → ClassId) (μ : Mem) (f : Nat → Int32) : (WC a cs μ).set 19 (a 19, .inl (cs 0, 8, .inl f)) = WC a cs (stR μ 19 f) := rfl
theorem set_WC_20 (a : Nat → Nat) (cs : Nat → ClassId) (μ : Mem) (j : Nat) (v : Int32) : (WC a cs μ).set 20 (a 20, .inl (cs 0, 8, .inl (upd (μ.1 20) j v))) = WC a cs (stI μ 20 j v) := rfl
theorem setR_WC_20 (a : Nat → Nat) (cs : Nat → ClassId) (μ : Mem) (f : Nat → Int32) : (WC a cs μ).set 20 (a 20, .inl (cs 0, 8, .inl f)) = WC a cs (stR μ 20 f) := rfl
theorem set_WC_21 (a : Nat → Nat) (cs : Nat → ClassId) (μ : Mem) (j : Nat) (v : Int32) : (WC a cs μ).set 21 (a 21, .inl (cs 0, 10, .inl (upd (μ.1 21) j v))) = WC a cs (stI μ 21 j v) := rfl
theorem setR_WC_21 (a : Nat → Nat) (cs : Nat → ClassId) (μ : Mem) (f : Nat → Int32) : (WC a cs μ).set 21 (a 21, .inl (cs 0, 10, .inl f)) = WC a cs (stR μ 21 f) := rfl
theorem set_WC_24 (a : Nat → Nat) (cs : Nat → ClassId) (μ : Mem) (j : Nat) (v : Int32) : (WC a cs μ).set 24 (a 24, .inl (cs 0, 8, .inl (upd (μ.1 24) j v))) = WC a cs (stI μ 24 j v) := rfl
theorem setR_WC_24 (a : Nat → Nat) (cs : Nat → ClassId) (μ : Mem) (f : Nat → Int32) : (WC a cs μ).set 24 (a 24, .inl (cs 0, 8, .inl f)) = WC a cs (stR μ 24 f) := rfl
theorem set_WC_25 (a : Nat → Nat) (cs : Nat → ClassId) (μ : Mem) (j : Nat) (v : Int32) : (WC a cs μ).set 25 (a 25, .inl (cs 0, 8, .inl (upd (μ.1 25) j v))) = WC a cs (stI μ 25 j v) := rfl
theorem setR_WC_25 (a : Nat → Nat) (cs : Nat → ClassId) (μ : Mem) (f : Nat → Int32) : (WC a cs μ).set 25 (a 25, .inl (cs 0, 8, .inl f)) = WC a cs (stR μ 25 f) := rfl
theorem set_WC_26 (a : Nat → Nat) (cs : Nat → ClassId) (μ : Mem) (j : Nat) (v : Int32) : (WC a cs μ).set 26 (a 26, .inl (cs 0, 8, .inl (upd (μ.1 26) j v))) = WC a cs (stI μ 26 j v) := rfl
theorem setR_WC_26 (a : Nat → Nat) (cs : Nat → ClassId) (μ : Mem) (f : Nat → Int32) : (WC a cs μ).set 26 (a 26, .inl (cs 0, 8, .inl f)) = WC a cs (stR μ 26 f) := rfl
theorem set_WC_27 (a : Nat → Nat) (cs : Nat → ClassId) (μ : Mem) (j : Nat) (v : Int32) : (WC a cs μ).set 27 (a 27, .inl (cs 0, 8, .inl (upd (μ.1 27) j v))) = WC a cs (stI μ 27 j v) := rfl
theorem setR_WC_27 (a : Nat → Nat) (cs : Nat → ClassId) (μ : Mem) (f : Nat → Int32) : (WC a cs μ).set 27 (a 27, .inl (cs 0, 8, .inl f)) = WC a cs (stR μ 27 f) := rfl
theorem set_WC_28 (a : Nat → Nat) (cs : Nat → ClassId) (μ : Mem) (j : Nat) (v : Int32) : (WC a cs μ).set 28 (a 28, .inl (cs 0, 10, .inl (upd (μ.1 28) j v))) = WC a cs (stI μ 28 j v) := rfl
theorem setR_WC_28 (a : Nat → Nat) (cs : Nat → ClassId) (μ : Mem) (f : Nat → Int32) : (WC a cs μ).set 28 (a 28, .inl (cs 0, 10, .inl f)) = WC a cs (stR μ 28 f) := rfl
theorem set_WC_30 (a : Nat → Nat) (cs : Nat → ClassId) (μ : Mem) (j : Nat) (v : Int32) : (WC a cs μ).set 30 (a 30, .inl (cs 0, 8, .inl (upd (μ.1 30) j v))) = WC a cs (stI μ 30 j v) := rfl
theorem setR_WC_30 (a : Nat → Nat) (cs : Nat → ClassId) (μ : Mem) (f : Nat → Int32) : (WC a cs μ).set 30 (a 30, .inl (cs 0, 8, .inl f)) = WC a cs (stR μ 30 f) := rfl
theorem set_WC_31 (a : Nat → Nat) (cs : Nat → ClassId) (μ : Mem) (j : Nat) (v : Int32) : (WC a cs μ).set 31 (a 31, .inl (cs 0, 8, .inl (upd (μ.1 31) j v))) = WC a cs (stI μ 31 j v) := rfl
theorem setR_WC_31 (a : Nat → Nat) (cs : Nat → ClassId) (μ : Mem) (f : Nat → Int32) : (WC a cs μ).set 31 (a 31, .inl (cs 0, 8, .inl f)) = WC a cs (stR μ 31 f) := rfl
theorem set_WC_32 (a : Nat → Nat) (cs : Nat → ClassId) (μ : Mem) (j : Nat) (v : Int32) : (WC a cs μ).set 32 (a 32, .inl (cs 0, 8, .inl (upd (μ.1 32) j v))) = WC a cs (stI μ 32 j v) := rfl
theorem setR_WC_32 (a : Nat → Nat) (cs : Nat → ClassId) (μ : Mem) (f : Nat → Int32) : (WC a cs μ).set 32 (a 32, .inl (cs 0, 8, .inl f)) = WC a cs (stR μ 32 f) := rfl
theorem set_WC_33 (a : Nat → Nat) (cs : Nat → ClassId) (μ : Mem) (j : Nat) (v : Int32) : (WC a cs μ).set 33 (a 33, .inl (cs 0, 8, .inl (upd (μ.1 33) j v))) = WC a cs (stI μ 33 j v) := rfl
theorem setR_WC_33 (a : Nat → Nat) (cs : Nat → ClassId) (μ : Mem) (f : Nat → Int32) : (WC a cs μ).set 33 (a 33, .inl (cs 0, 8, .inl f)) = WC a cs (stR μ 33 f) := rfl
theorem set_WC_34 (a : Nat → Nat) (cs : Nat → ClassId) (μ : Mem) (j : Nat) (v : Int32) : (WC a cs μ).set 34 (a 34, .inl (cs 0, 10, .inl (upd (μ.1 34) j v))) = WC a cs (stI μ 34 j v) := rfl
theorem setR_WC_34 (a : Nat → Nat) (cs : Nat → ClassId) (μ : Mem) (f : Nat → Int32) : (WC a cs μ).set 34 (a 34, .inl (cs 0, 10, .inl f)) = WC a cs (stR μ 34 f) := rfl
theorem set_WC_35 (a : Nat → Nat) (cs : Nat → ClassId) (μ : Mem) (j : Nat) (v : Int32) : (WC a cs μ).set 35 (a 35, .inl (cs 2, 2, .inl (upd (μ.1 35) j v))) = WC a cs (stI μ 35 j v) := rfl
theorem setR_WC_35 (a : Nat → Nat) (cs : Nat → ClassId) (μ : Mem) (f : Nat → Int32) : (WC a cs μ).set 35 (a 35, .inl (cs 2, 2, .inl f)) = WC a cs (stR μ 35 f) := rfl
theorem set_WM_1 (a : Nat → Nat) (cs : Nat → ClassId) (μ : Mem) (j : Nat) (v : Int32) : (WM a cs μ).set 1 (a 1, .inl (cs 0, 3, .inl (upd (μ.1 1) j v))) = WM a cs (stI μ 1 j v) := rfl
theorem setR_WM_1 (a : Nat → Nat) (cs : Nat → ClassId) (μ : Mem) (f : Nat → Int32) : (WM a cs μ).set 1 (a 1, .inl (cs 0, 3, .inl f)) = WM a cs (stR μ 1 f) := rfl
theorem set_WM_2 (a : Nat → Nat) (cs : Nat → ClassId) (μ : Mem) (j : Nat) (v : Int32) : (WM a cs μ).set 2 (a 2, .inl (cs 0, 47, .inl (upd (μ.1 2) j v))) = WM a cs (stI μ 2 j v) := rfl
theorem setR_WM_2 (a : Nat → Nat) (cs : Nat → ClassId) (μ : Mem) (f : Nat → Int32) : (WM a cs μ).set 2 (a 2, .inl (cs 0, 47, .inl f)) = WM a cs (stR μ 2 f) := rfl
theorem set_WM_3 (a : Nat → Nat) (cs : Nat → ClassId) (μ : Mem) (j : Nat) (v : Int32) : (WM a cs μ).set 3 (a 3, .inl (cs 0, 47, .inl (upd (μ.1 3) j v))) = WM a cs (stI μ 3 j v) := rfl
theorem setR_WM_3 (a : Nat → Nat) (cs : Nat → ClassId) (μ : Mem) (f : Nat → Int32) : (WM a cs μ).set 3 (a 3, .inl (cs 0, 47, .inl f)) = WM a cs (stR μ 3 f) := rfl
theorem set_WM_4 (a : Nat → Nat) (cs : Nat → ClassId) (μ : Mem) (j : Nat) (v : Int32) : (WM a cs μ).set 4 (a 4, .inl (cs 0, 94, .inl (upd (μ.1 4) j v))) = WM a cs (stI μ 4 j v) := rfl
theorem setR_WM_4 (a : Nat → Nat) (cs : Nat → ClassId) (μ : Mem) (f : Nat → Int32) : (WM a cs μ).set 4 (a 4, .inl (cs 0, 94, .inl f)) = WM a cs (stR μ 4 f) := rfl
theorem set_WM_5 (a : Nat → Nat) (cs : Nat → ClassId) (μ : Mem) (j : Nat) (v : Int32) : (WM a cs μ).set 5 (a 5, .inl (cs 2, 2, .inl (upd (μ.1 5) j v))) = WM a cs (stI μ 5 j v) := rfl
theorem setR_WM_5 (a : Nat → Nat) (cs : Nat → ClassId) (μ : Mem) (f : Nat → Int32) : (WM a cs μ).set 5 (a 5, .inl (cs 2, 2, .inl f)) = WM a cs (stR μ 5 f) := rfl
theorem set_WM_6 (a : Nat → Nat) (cs : Nat → ClassId) (μ : Mem) (j : Nat) (v : Int32) : (WM a cs μ).set 6 (a 6, .inl (cs 0, 150, .inl (upd (μ.1 6) j v))) = WM a cs (stI μ 6 j v) := rfl
theorem setR_WM_6 (a : Nat → Nat) (cs : Nat → ClassId) (μ : Mem) (f : Nat → Int32) : (WM a cs μ).set 6 (a 6, .inl (cs 0, 150, .inl f)) = WM a cs (stR μ 6 f) := rfl
theorem set_WM_7 (a : Nat → Nat) (cs : Nat → ClassId) (μ : Mem) (j : Nat) (v : Int32) : (WM a cs μ).set 7 (a 7, .inl (cs 0, 200, .inl (upd (μ.1 7) j v))) = WM a cs (stI μ 7 j v) := rfl
theorem setR_WM_7 (a : Nat → Nat) (cs : Nat → ClassId) (μ : Mem) (f : Nat → Int32) : (WM a cs μ).set 7 (a 7, .inl (cs 0, 200, .inl f)) = WM a cs (stR μ 7 f) := rfl
theorem set_WM_8 (a : Nat → Nat) (cs : Nat → ClassId) (μ : Mem) (j : Nat) (v : Int32) : (WM a cs μ).set 8 (a 8, .inl (cs 0, 8, .inl (upd (μ.1 8) j v))) = WM a cs (stI μ 8 j v) := rfl
theorem setR_WM_8 (a : Nat → Nat) (cs : Nat → ClassId) (μ : Mem) (f : Nat → Int32) : (WM a cs μ).set 8 (a 8, .inl (cs 0, 8, .inl f)) = WM a cs (stR μ 8 f) := rfl
theorem set_WM_9 (a : Nat → Nat) (cs : Nat → ClassId) (μ : Mem) (j : Nat) (v : Int32) : (WM a cs μ).set 9 (a 9, .inl (cs 0, 8, .inl (upd (μ.1 9) j v))) = WM a cs (stI μ 9 j v) := rfl
theorem setR_WM_9 (a : Nat → Nat) (cs : Nat → ClassId) (μ : Mem) (f : Nat → Int32) : (WM a cs μ).set 9 (a 9, .inl (cs 0, 8, .inl f)) = WM a cs (stR μ 9 f) := rfl
theorem set_WM_10 (a : Nat → Nat) (cs : Nat → ClassId) (μ : Mem) (j : Nat) (v : Int32) : (WM a cs μ).set 10 (a 10, .inl (cs 0, 256, .inl (upd (μ.1 10) j v))) = WM a cs (stI μ 10 j v) := rfl
theorem setR_WM_10 (a : Nat → Nat) (cs : Nat → ClassId) (μ : Mem) (f : Nat → Int32) : (WM a cs μ).set 10 (a 10, .inl (cs 0, 256, .inl f)) = WM a cs (stR μ 10 f) := rfl
theorem mc_max : Cond.code Lib.Math.max.name Lib.Math.max.code 2 (some .int) ∈ TT := tm 619 (by decide +kernel) (by decide +kernel)
theorem ms_max : Cond.static Lib.Math.max.name ∈ TT := tm 618 (by decide +kernel) (by decide +kernel)
theorem g_mmax {p : Program} {l : Launch} {e : Env} {R : Room} {s : State} {m : MethodId} {args : Array Value} {below : List Frame} {meth : Method} {c : Code} {Q : State → Prop} {D : va_G} {A : Nat → Prop} {nL : Nat} {ws : va_W} {pc pc1 : Nat} {L : List (Nat × Value)} {rest : List Value} {cc : ByteArray} {own : String} (C : Cx p s m args c cc nL own) {x y : Int32} {idx : Nat} (hl : Cond.methodLink own idx Lib.Math.max.name ∈ TT) (hf : 1 ≤ R.frames) (hL : (rest.map fun v => v.category).sum + 13 ≤ R.locals) (d : decode cc pc = .ok (.invokestatic idx, 3)) (hp : pc + 3 = pc1) (k : G p l e R s m args below meth c Q D A nL ws pc1 L (.int (if x < y then y else x) :: rest)) : G p l e R s m args below meth c Q D A nL ws pc L (.int y :: .int x :: rest) := by
  subst hp
  intro H locs ls h1 h2 h3 h4
  exact va_mmax C.x C.b (C.ml.trans h4.1.symm) C.own (C.ts _ hl) (C.ts _ ms_max) (C.ts _ (tm 78 (by decide +kernel) (by decide +kernel))) (C.ts _ mc_max) hf hL (Nat.zero_le _) (Nat.zero_le _) d (k H locs ls h1 h2 h3 h4)
theorem mc_min : Cond.code Lib.Math.min.name Lib.Math.min.code 2 (some .int) ∈ TT := tm 413 (by decide +kernel) (by decide +kernel)
theorem ms_min : Cond.static Lib.Math.min.name ∈ TT := tm 412 (by decide +kernel) (by decide +kernel)
theorem g_mmin {p : Program} {l : Launch} {e : Env} {R : Room} {s : State} {m : MethodId} {args : Array Value} {below : List Frame} {meth : Method} {c : Code} {Q : State → Prop} {D : va_G} {A : Nat → Prop} {nL : Nat} {ws : va_W} {pc pc1 : Nat} {L : List (Nat × Value)} {rest : List Value} {cc : ByteArray} {own : String} (C : Cx p s m args c cc nL own) {x y : Int32} {idx : Nat} (hl : Cond.methodLink own idx Lib.Math.min.name ∈ TT) (hf : 1 ≤ R.frames) (hL : (rest.map fun v => v.category).sum + 13 ≤ R.locals) (d : decode cc pc = .ok (.invokestatic idx, 3)) (hp : pc + 3 = pc1) (k : G p l e R s m args below meth c Q D A nL ws pc1 L (.int (if y < x then y else x) :: rest)) : G p l e R s m args below meth c Q D A nL ws pc L (.int y :: .int x :: rest) := by
  subst hp
  intro H locs ls h1 h2 h3 h4
  exact va_mmin C.x C.b (C.ml.trans h4.1.symm) C.own (C.ts _ hl) (C.ts _ ms_min) (C.ts _ (tm 78 (by decide +kernel) (by decide +kernel))) (C.ts _ mc_min) hf hL (Nat.zero_le _) (Nat.zero_le _) d (k H locs ls h1 h2 h3 h4)
theorem mc_abs : Cond.code Lib.Math.abs.name Lib.Math.abs.code 1 (some .int) ∈ TT := tm 603 (by decide +kernel) (by decide +kernel)
theorem ms_abs : Cond.static Lib.Math.abs.name ∈ TT := tm 602 (by decide +kernel) (by decide +kernel)
theorem g_mabs {p : Program} {l : Launch} {e : Env} {R : Room} {s : State} {m : MethodId} {args : Array Value} {below : List Frame} {meth : Method} {c : Code} {Q : State → Prop} {D : va_G} {A : Nat → Prop} {nL : Nat} {ws : va_W} {pc pc1 : Nat} {L : List (Nat × Value)} {rest : List Value} {cc : ByteArray} {own : String} (C : Cx p s m args c cc nL own) {x : Int32} {idx : Nat} (hl : Cond.methodLink own idx Lib.Math.abs.name ∈ TT) (hf : 1 ≤ R.frames) (hL : (rest.map fun v => v.category).sum + 13 ≤ R.locals) (d : decode cc pc = .ok (.invokestatic idx, 3)) (hp : pc + 3 = pc1) (k : G p l e R s m args below meth c Q D A nL ws pc1 L (.int (if 0 ≤ x then x else 0 - x) :: rest)) : G p l e R s m args below meth c Q D A nL ws pc L (.int x :: rest) := by
  subst hp
  intro H locs ls h1 h2 h3 h4
  exact va_mabs C.x C.b (C.ml.trans h4.1.symm) C.own (C.ts _ hl) (C.ts _ ms_abs) (C.ts _ (tm 78 (by decide +kernel) (by decide +kernel))) (C.ts _ mc_abs) hf hL (Nat.zero_le _) (Nat.zero_le _) d (k H locs ls h1 h2 h3 h4)
theorem fr_1 (a : Nat → Nat) (cs : Nat → ClassId) (μ : Mem) (φ : Mem) : Fr (AC a) (AF (off 1 a)) (WC a cs μ) (WF (off 1 a) cs (sub 1 μ)) (WF (off 1 a) cs φ) (WC a cs (put6 1 0 μ φ)) := by
  refine Fr.of [1, 2, 3, 4, 5, 6] [0, 7, 8, 9, 10, 11, 12, 13, 14, 15, 16, 17, 18, 19, 20, 21, 22, 23, 24, 25, 26, 27, 28, 29, 30, 31, 32, 33, 34, 35] [0, 30, 31, 32, 33, 34, 35, 1, 2, 3, 4, 5, 6, 7, 8, 9, 10, 11, 12, 13, 14, 15, 16, 17, 18, 19, 20, 21, 22, 23, 24, 25, 26, 27, 28, 29] (([0, 7, 8, 9, 10, 11, 12, 13, 14, 15, 16, 17, 18, 19, 20, 21, 22, 23, 24, 25, 26, 27, 28, 29, 30, 31, 32, 33, 34, 35] : List Nat).filterMap (fun i => (WC a cs μ)[i]?)) (fun q hq => ?_) (fun q h => h) (fun k q h => ?_) rfl rfl (by decide) rfl (by decide) rfl rfl
  · simp only [AF, off, List.mem_cons, List.not_mem_nil, or_false] at hq
    rcases hq with rfl | rfl | rfl | rfl | rfl | rfl <;> simp [AC]
  · exact (List.mem_map_of_mem (f := fun q : Nat × va_E => q.1) (List.mem_of_getElem? h) : q.1 ∈ (WF (off 1 a) cs (sub 1 μ)).map (fun q => q.1))
theorem frR_1 (a : Nat → Nat) (cs : Nat → ClassId) (μ : Mem) : Fr (AC a) (AF (off 1 a)) (WC a cs μ) (WF (off 1 a) cs (sub 1 μ)) (WF (off 1 a) cs (sub 1 μ)) (WC a cs μ) := by
  refine Fr.of [1, 2, 3, 4, 5, 6] [0, 7, 8, 9, 10, 11, 12, 13, 14, 15, 16, 17, 18, 19, 20, 21, 22, 23, 24, 25, 26, 27, 28, 29, 30, 31, 32, 33, 34, 35] [0, 30, 31, 32, 33, 34, 35, 1, 2, 3, 4, 5, 6, 7, 8, 9, 10, 11, 12, 13, 14, 15, 16, 17, 18, 19, 20, 21, 22, 23, 24, 25, 26, 27, 28, 29] (([0, 7, 8, 9, 10, 11, 12, 13, 14, 15, 16, 17, 18, 19, 20, 21, 22, 23, 24, 25, 26, 27, 28, 29, 30, 31, 32, 33, 34, 35] : List Nat).filterMap (fun i => (WC a cs μ)[i]?)) (fun q hq => ?_) (fun q h => h) (fun k q h => ?_) rfl rfl (by decide) rfl (by decide) rfl rfl
  · simp only [AF, off, List.mem_cons, List.not_mem_nil, or_false] at hq
    rcases hq with rfl | rfl | rfl | rfl | rfl | rfl <;> simp [AC]
  · exact (List.mem_map_of_mem (f := fun q : Nat × va_E => q.1) (List.mem_of_getElem? h) : q.1 ∈ (WF (off 1 a) cs (sub 1 μ)).map (fun q => q.1))
theorem fr_16 (a : Nat → Nat) (cs : Nat → ClassId) (μ : Mem) (φ : Mem) : Fr (AC a) (AF (off 16 a)) (WC a cs μ) (WF (off 16 a) cs (sub 16 μ)) (WF (off 16 a) cs φ) (WC a cs (put6 16 0 μ φ)) := by
  refine Fr.of [16, 17, 18, 19, 20, 21] [0, 1, 2, 3, 4, 5, 6, 7, 8, 9, 10, 11, 12, 13, 14, 15, 22, 23, 24, 25, 26, 27, 28, 29, 30, 31, 32, 33, 34, 35] [0, 1, 2, 3, 4, 5, 6, 7, 8, 9, 10, 11, 12, 13, 14, 15, 30, 31, 32, 33, 34, 35, 16, 17, 18, 19, 20, 21, 22, 23, 24, 25, 26, 27, 28, 29] (([0, 1, 2, 3, 4, 5, 6, 7, 8, 9, 10, 11, 12, 13, 14, 15, 22, 23, 24, 25, 26, 27, 28, 29, 30, 31, 32, 33, 34, 35] : List Nat).filterMap (fun i => (WC a cs μ)[i]?)) (fun q hq => ?_) (fun q h => h) (fun k q h => ?_) rfl rfl (by decide) rfl (by decide) rfl rfl
  · simp only [AF, off, List.mem_cons, List.not_mem_nil, or_false] at hq
    rcases hq with rfl | rfl | rfl | rfl | rfl | rfl <;> simp [AC]
  · exact (List.mem_map_of_mem (f := fun q : Nat × va_E => q.1) (List.mem_of_getElem? h) : q.1 ∈ (WF (off 16 a) cs (sub 16 μ)).map (fun q => q.1))
theorem frR_16 (a : Nat → Nat) (cs : Nat → ClassId) (μ : Mem) : Fr (AC a) (AF (off 16 a)) (WC a cs μ) (WF (off 16 a) cs (sub 16 μ)) (WF (off 16 a) cs (sub 16 μ)) (WC a cs μ) := by
  refine Fr.of [16, 17, 18, 19, 20, 21] [0, 1, 2, 3, 4, 5, 6, 7, 8, 9, 10, 11, 12, 13, 14, 15, 22, 23, 24, 25, 26, 27, 28, 29, 30, 31, 32, 33, 34, 35] [0, 1, 2, 3, 4, 5, 6, 7, 8, 9, 10, 11, 12, 13, 14, 15, 30, 31, 32, 33, 34, 35, 16, 17, 18, 19, 20, 21, 22, 23, 24, 25, 26, 27, 28, 29] (([0, 1, 2, 3, 4, 5, 6, 7, 8, 9, 10, 11, 12, 13, 14, 15, 22, 23, 24, 25, 26, 27, 28, 29, 30, 31, 32, 33, 34, 35] : List Nat).filterMap (fun i => (WC a cs μ)[i]?)) (fun q hq => ?_) (fun q h => h) (fun k q h => ?_) rfl rfl (by decide) rfl (by decide) rfl rfl
  · simp only [AF, off, List.mem_cons, List.not_mem_nil, or_false] at hq
    rcases hq with rfl | rfl | rfl | rfl | rfl | rfl <;> simp [AC]
  · exact (List.mem_map_of_mem (f := fun q : Nat × va_E => q.1) (List.mem_of_getElem? h) : q.1 ∈ (WF (off 16 a) cs (sub 16 μ)).map (fun q => q.1))
theorem fr_23 (a : Nat → Nat) (cs : Nat → ClassId) (μ : Mem) (φ : Mem) : Fr (AC a) (AF (off 23 a)) (WC a cs μ) (WF (off 23 a) cs (sub 23 μ)) (WF (off 23 a) cs φ) (WC a cs (put6 23 0 μ φ)) := by
  refine Fr.of [23, 24, 25, 26, 27, 28] [0, 1, 2, 3, 4, 5, 6, 7, 8, 9, 10, 11, 12, 13, 14, 15, 16, 17, 18, 19, 20, 21, 22, 29, 30, 31, 32, 33, 34, 35] [0, 1, 2, 3, 4, 5, 6, 7, 8, 9, 10, 11, 12, 13, 14, 15, 16, 17, 18, 19, 20, 21, 22, 30, 31, 32, 33, 34, 35, 23, 24, 25, 26, 27, 28, 29] (([0, 1, 2, 3, 4, 5, 6, 7, 8, 9, 10, 11, 12, 13, 14, 15, 16, 17, 18, 19, 20, 21, 22, 29, 30, 31, 32, 33, 34, 35] : List Nat).filterMap (fun i => (WC a cs μ)[i]?)) (fun q hq => ?_) (fun q h => h) (fun k q h => ?_) rfl rfl (by decide) rfl (by decide) rfl rfl
  · simp only [AF, off, List.mem_cons, List.not_mem_nil, or_false] at hq
    rcases hq with rfl | rfl | rfl | rfl | rfl | rfl <;> simp [AC]
  · exact (List.mem_map_of_mem (f := fun q : Nat × va_E => q.1) (List.mem_of_getElem? h) : q.1 ∈ (WF (off 23 a) cs (sub 23 μ)).map (fun q => q.1))
theorem frR_23 (a : Nat → Nat) (cs : Nat → ClassId) (μ : Mem) : Fr (AC a) (AF (off 23 a)) (WC a cs μ) (WF (off 23 a) cs (sub 23 μ)) (WF (off 23 a) cs (sub 23 μ)) (WC a cs μ) := by
  refine Fr.of [23, 24, 25, 26, 27, 28] [0, 1, 2, 3, 4, 5, 6, 7, 8, 9, 10, 11, 12, 13, 14, 15, 16, 17, 18, 19, 20, 21, 22, 29, 30, 31, 32, 33, 34, 35] [0, 1, 2, 3, 4, 5, 6, 7, 8, 9, 10, 11, 12, 13, 14, 15, 16, 17, 18, 19, 20, 21, 22, 30, 31, 32, 33, 34, 35, 23, 24, 25, 26, 27, 28, 29] (([0, 1, 2, 3, 4, 5, 6, 7, 8, 9, 10, 11, 12, 13, 14, 15, 16, 17, 18, 19, 20, 21, 22, 29, 30, 31, 32, 33, 34, 35] : List Nat).filterMap (fun i => (WC a cs μ)[i]?)) (fun q hq => ?_) (fun q h => h) (fun k q h => ?_) rfl rfl (by decide) rfl (by decide) rfl rfl
  · simp only [AF, off, List.mem_cons, List.not_mem_nil, or_false] at hq
    rcases hq with rfl | rfl | rfl | rfl | rfl | rfl <;> simp [AC]
  · exact (List.mem_map_of_mem (f := fun q : Nat × va_E => q.1) (List.mem_of_getElem? h) : q.1 ∈ (WF (off 23 a) cs (sub 23 μ)).map (fun q => q.1))
theorem fr_29 (a : Nat → Nat) (cs : Nat → ClassId) (μ : Mem) (φ : Mem) : Fr (AC a) (AF (off 29 a)) (WC a cs μ) (WF (off 29 a) cs (sub 29 μ)) (WF (off 29 a) cs φ) (WC a cs (put6 29 0 μ φ)) := by
  refine Fr.of [29, 30, 31, 32, 33, 34] [0, 1, 2, 3, 4, 5, 6, 7, 8, 9, 10, 11, 12, 13, 14, 15, 16, 17, 18, 19, 20, 21, 22, 23, 24, 25, 26, 27, 28, 35] [0, 1, 2, 3, 4, 5, 6, 7, 8, 9, 10, 11, 12, 13, 14, 15, 16, 17, 18, 19, 20, 21, 22, 23, 24, 25, 26, 27, 28, 30, 31, 32, 33, 34, 35, 29] (([0, 1, 2, 3, 4, 5, 6, 7, 8, 9, 10, 11, 12, 13, 14, 15, 16, 17, 18, 19, 20, 21, 22, 23, 24, 25, 26, 27, 28, 35] : List Nat).filterMap (fun i => (WC a cs μ)[i]?)) (fun q hq => ?_) (fun q h => h) (fun k q h => ?_) rfl rfl (by decide) rfl (by decide) rfl rfl
  · simp only [AF, off, List.mem_cons, List.not_mem_nil, or_false] at hq
    rcases hq with rfl | rfl | rfl | rfl | rfl | rfl <;> simp [AC]
  · exact (List.mem_map_of_mem (f := fun q : Nat × va_E => q.1) (List.mem_of_getElem? h) : q.1 ∈ (WF (off 29 a) cs (sub 29 μ)).map (fun q => q.1))
theorem frR_29 (a : Nat → Nat) (cs : Nat → ClassId) (μ : Mem) : Fr (AC a) (AF (off 29 a)) (WC a cs μ) (WF (off 29 a) cs (sub 29 μ)) (WF (off 29 a) cs (sub 29 μ)) (WC a cs μ) := by
  refine Fr.of [29, 30, 31, 32, 33, 34] [0, 1, 2, 3, 4, 5, 6, 7, 8, 9, 10, 11, 12, 13, 14, 15, 16, 17, 18, 19, 20, 21, 22, 23, 24, 25, 26, 27, 28, 35] [0, 1, 2, 3, 4, 5, 6, 7, 8, 9, 10, 11, 12, 13, 14, 15, 16, 17, 18, 19, 20, 21, 22, 23, 24, 25, 26, 27, 28, 30, 31, 32, 33, 34, 35, 29] (([0, 1, 2, 3, 4, 5, 6, 7, 8, 9, 10, 11, 12, 13, 14, 15, 16, 17, 18, 19, 20, 21, 22, 23, 24, 25, 26, 27, 28, 35] : List Nat).filterMap (fun i => (WC a cs μ)[i]?)) (fun q hq => ?_) (fun q h => h) (fun k q h => ?_) rfl rfl (by decide) rfl (by decide) rfl rfl
  · simp only [AF, off, List.mem_cons, List.not_mem_nil, or_false] at hq
    rcases hq with rfl | rfl | rfl | rfl | rfl | rfl <;> simp [AC]
  · exact (List.mem_map_of_mem (f := fun q : Nat × va_E => q.1) (List.mem_of_getElem? h) : q.1 ∈ (WF (off 29 a) cs (sub 29 μ)).map (fun q => q.1))
theorem fr2_1_16 (a : Nat → Nat) (cs : Nat → ClassId) (μ φ : Mem) : Fr (AC a) (AFF (off2 1 16 a)) (WC a cs μ) (WFF (off2 1 16 a) cs (two 1 16 μ)) (WFF (off2 1 16 a) cs φ) (WC a cs (put6 1 0 (put6 16 6 μ φ) φ)) := by
  refine Fr.of [1, 2, 3, 4, 5, 6, 16, 17, 18, 19, 20, 21] [0, 7, 8, 9, 10, 11, 12, 13, 14, 15, 22, 23, 24, 25, 26, 27, 28, 29, 30, 31, 32, 33, 34, 35] [0, 24, 25, 26, 27, 28, 29, 1, 2, 3, 4, 5, 6, 7, 8, 9, 30, 31, 32, 33, 34, 35, 10, 11, 12, 13, 14, 15, 16, 17, 18, 19, 20, 21, 22, 23] (([0, 7, 8, 9, 10, 11, 12, 13, 14, 15, 22, 23, 24, 25, 26, 27, 28, 29, 30, 31, 32, 33, 34, 35] : List Nat).filterMap (fun i => (WC a cs μ)[i]?)) (fun q hq => ?_) (fun q h => h) (fun k q h => ?_) rfl rfl (by decide) rfl (by decide) rfl rfl
  · have hq : q ∈ [a 1, a 2, a 3, a 4, a 5, a 6, a 16, a 17, a 18, a 19, a 20, a 21] := hq
    simp only [List.mem_cons, List.not_mem_nil, or_false] at hq
    rcases hq with rfl | rfl | rfl | rfl | rfl | rfl | rfl | rfl | rfl | rfl | rfl | rfl <;> simp [AC]
  · exact (List.mem_map_of_mem (f := fun q : Nat × va_E => q.1) (List.mem_of_getElem? h) : q.1 ∈ (WFF (off2 1 16 a) cs (two 1 16 μ)).map (fun q => q.1))
theorem fr2_1_23 (a : Nat → Nat) (cs : Nat → ClassId) (μ φ : Mem) : Fr (AC a) (AFF (off2 1 23 a)) (WC a cs μ) (WFF (off2 1 23 a) cs (two 1 23 μ)) (WFF (off2 1 23 a) cs φ) (WC a cs (put6 1 0 (put6 23 6 μ φ) φ)) := by
  refine Fr.of [1, 2, 3, 4, 5, 6, 23, 24, 25, 26, 27, 28] [0, 7, 8, 9, 10, 11, 12, 13, 14, 15, 16, 17, 18, 19, 20, 21, 22, 29, 30, 31, 32, 33, 34, 35] [0, 24, 25, 26, 27, 28, 29, 1, 2, 3, 4, 5, 6, 7, 8, 9, 10, 11, 12, 13, 14, 15, 16, 30, 31, 32, 33, 34, 35, 17, 18, 19, 20, 21, 22, 23] (([0, 7, 8, 9, 10, 11, 12, 13, 14, 15, 16, 17, 18, 19, 20, 21, 22, 29, 30, 31, 32, 33, 34, 35] : List Nat).filterMap (fun i => (WC a cs μ)[i]?)) (fun q hq => ?_) (fun q h => h) (fun k q h => ?_) rfl rfl (by decide) rfl (by decide) rfl rfl
  · have hq : q ∈ [a 1, a 2, a 3, a 4, a 5, a 6, a 23, a 24, a 25, a 26, a 27, a 28] := hq
    simp only [List.mem_cons, List.not_mem_nil, or_false] at hq
    rcases hq with rfl | rfl | rfl | rfl | rfl | rfl | rfl | rfl | rfl | rfl | rfl | rfl <;> simp [AC]
  · exact (List.mem_map_of_mem (f := fun q : Nat × va_E => q.1) (List.mem_of_getElem? h) : q.1 ∈ (WFF (off2 1 23 a) cs (two 1 23 μ)).map (fun q => q.1))
theorem fr2_1_29 (a : Nat → Nat) (cs : Nat → ClassId) (μ φ : Mem) : Fr (AC a) (AFF (off2 1 29 a)) (WC a cs μ) (WFF (off2 1 29 a) cs (two 1 29 μ)) (WFF (off2 1 29 a) cs φ) (WC a cs (put6 1 0 (put6 29 6 μ φ) φ)) := by
  refine Fr.of [1, 2, 3, 4, 5, 6, 29, 30, 31, 32, 33, 34] [0, 7, 8, 9, 10, 11, 12, 13, 14, 15, 16, 17, 18, 19, 20, 21, 22, 23, 24, 25, 26, 27, 28, 35] [0, 24, 25, 26, 27, 28, 29, 1, 2, 3, 4, 5, 6, 7, 8, 9, 10, 11, 12, 13, 14, 15, 16, 17, 18, 19, 20, 21, 22, 30, 31, 32, 33, 34, 35, 23] (([0, 7, 8, 9, 10, 11, 12, 13, 14, 15, 16, 17, 18, 19, 20, 21, 22, 23, 24, 25, 26, 27, 28, 35] : List Nat).filterMap (fun i => (WC a cs μ)[i]?)) (fun q hq => ?_) (fun q h => h) (fun k q h => ?_) rfl rfl (by decide) rfl (by decide) rfl rfl
  · have hq : q ∈ [a 1, a 2, a 3, a 4, a 5, a 6, a 29, a 30, a 31, a 32, a 33, a 34] := hq
    simp only [List.mem_cons, List.not_mem_nil, or_false] at hq
    rcases hq with rfl | rfl | rfl | rfl | rfl | rfl | rfl | rfl | rfl | rfl | rfl | rfl <;> simp [AC]
  · exact (List.mem_map_of_mem (f := fun q : Nat × va_E => q.1) (List.mem_of_getElem? h) : q.1 ∈ (WFF (off2 1 29 a) cs (two 1 29 μ)).map (fun q => q.1))
theorem fr2_23_1 (a : Nat → Nat) (cs : Nat → ClassId) (μ φ : Mem) : Fr (AC a) (AFF (off2 23 1 a)) (WC a cs μ) (WFF (off2 23 1 a) cs (two 23 1 μ)) (WFF (off2 23 1 a) cs φ) (WC a cs (put6 23 0 (put6 1 6 μ φ) φ)) := by
  refine Fr.of [23, 24, 25, 26, 27, 28, 1, 2, 3, 4, 5, 6] [0, 7, 8, 9, 10, 11, 12, 13, 14, 15, 16, 17, 18, 19, 20, 21, 22, 29, 30, 31, 32, 33, 34, 35] [0, 30, 31, 32, 33, 34, 35, 1, 2, 3, 4, 5, 6, 7, 8, 9, 10, 11, 12, 13, 14, 15, 16, 24, 25, 26, 27, 28, 29, 17, 18, 19, 20, 21, 22, 23] (([0, 7, 8, 9, 10, 11, 12, 13, 14, 15, 16, 17, 18, 19, 20, 21, 22, 29, 30, 31, 32, 33, 34, 35] : List Nat).filterMap (fun i => (WC a cs μ)[i]?)) (fun q hq => ?_) (fun q h => h) (fun k q h => ?_) rfl rfl (by decide) rfl (by decide) rfl rfl
  · have hq : q ∈ [a 23, a 24, a 25, a 26, a 27, a 28, a 1, a 2, a 3, a 4, a 5, a 6] := hq
    simp only [List.mem_cons, List.not_mem_nil, or_false] at hq
    rcases hq with rfl | rfl | rfl | rfl | rfl | rfl | rfl | rfl | rfl | rfl | rfl | rfl <;> simp [AC]
  · exact (List.mem_map_of_mem (f := fun q : Nat × va_E => q.1) (List.mem_of_getElem? h) : q.1 ∈ (WFF (off2 23 1 a) cs (two 23 1 μ)).map (fun q => q.1))
theorem fr2_29_1 (a : Nat → Nat) (cs : Nat → ClassId) (μ φ : Mem) : Fr (AC a) (AFF (off2 29 1 a)) (WC a cs μ) (WFF (off2 29 1 a) cs (two 29 1 μ)) (WFF (off2 29 1 a) cs φ) (WC a cs (put6 29 0 (put6 1 6 μ φ) φ)) := by
  refine Fr.of [29, 30, 31, 32, 33, 34, 1, 2, 3, 4, 5, 6] [0, 7, 8, 9, 10, 11, 12, 13, 14, 15, 16, 17, 18, 19, 20, 21, 22, 23, 24, 25, 26, 27, 28, 35] [0, 30, 31, 32, 33, 34, 35, 1, 2, 3, 4, 5, 6, 7, 8, 9, 10, 11, 12, 13, 14, 15, 16, 17, 18, 19, 20, 21, 22, 24, 25, 26, 27, 28, 29, 23] (([0, 7, 8, 9, 10, 11, 12, 13, 14, 15, 16, 17, 18, 19, 20, 21, 22, 23, 24, 25, 26, 27, 28, 35] : List Nat).filterMap (fun i => (WC a cs μ)[i]?)) (fun q hq => ?_) (fun q h => h) (fun k q h => ?_) rfl rfl (by decide) rfl (by decide) rfl rfl
  · have hq : q ∈ [a 29, a 30, a 31, a 32, a 33, a 34, a 1, a 2, a 3, a 4, a 5, a 6] := hq
    simp only [List.mem_cons, List.not_mem_nil, or_false] at hq
    rcases hq with rfl | rfl | rfl | rfl | rfl | rfl | rfl | rfl | rfl | rfl | rfl | rfl <;> simp [AC]
  · exact (List.mem_map_of_mem (f := fun q : Nat × va_E => q.1) (List.mem_of_getElem? h) : q.1 ∈ (WFF (off2 29 1 a) cs (two 29 1 μ)).map (fun q => q.1))
