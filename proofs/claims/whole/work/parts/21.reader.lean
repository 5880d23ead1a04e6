def y_R_spells : MethodName := ⟨"TentPegs$Reader", "spells", "(Ljava/lang/String;)Z"⟩
abbrev b_R_spells : ByteArray := prog_5_method_19_code
def y_R_stepOverWord : MethodName := ⟨"TentPegs$Reader", "stepOverWord", "()V"⟩
abbrev b_R_stepOverWord : ByteArray := prog_5_method_15_code
def y_R_step : MethodName := ⟨"TentPegs$Reader", "step", "()V"⟩
abbrev b_R_step : ByteArray := prog_5_method_13_code
def y_R_isItem : MethodName := ⟨"TentPegs$Reader", "isItem", "(I)Z"⟩
abbrev b_R_isItem : ByteArray := prog_5_method_4_code
def y_R_goThrough : MethodName := ⟨"TentPegs$Reader", "goThrough", "(I)V"⟩
abbrev b_R_goThrough : ByteArray := prog_5_method_2_code
def y_T_read : MethodName := ⟨"TentPegs", "read", "()I"⟩
abbrev b_T_read : ByteArray := prog_1_method_9_code
theorem kw_300 : Cond.methodLink "TentPegs$Reader" 146 y_R_isLetter ∈ TT := tm 422 (by decide +kernel) (by decide +kernel)
theorem kw_301 : Cond.methodLink "TentPegs$Reader" 161 y_R_spells ∈ TT := tm 431 (by decide +kernel) (by decide +kernel)
theorem kw_302 : Cond.methodLink "TentPegs$Reader" 143 y_R_skipBlanks ∈ TT := tm 418 (by decide +kernel) (by decide +kernel)
theorem kw_303 : Cond.methodLink "TentPegs$Reader" 156 y_R_stepOverNumber ∈ TT := tm 491 (by decide +kernel) (by decide +kernel)
theorem kw_304 : Cond.methodLink "TentPegs$Reader" 150 y_R_stepOverWord ∈ TT := tm 426 (by decide +kernel) (by decide +kernel)
theorem kw_305 : Cond.methodLink "TentPegs$Reader" 71 y_R_numbersOf ∈ TT := tm 499 (by decide +kernel) (by decide +kernel)
theorem kw_306 : Cond.methodLink "TentPegs$Reader" 55 y_R_step ∈ TT := tm 414 (by decide +kernel) (by decide +kernel)
theorem kw_307 : Cond.methodLink "TentPegs$Reader" 51 y_R_begin ∈ TT := tm 407 (by decide +kernel) (by decide +kernel)
theorem kw_308 : Cond.methodLink "TentPegs$Reader" 58 y_R_isItem ∈ TT := tm 495 (by decide +kernel) (by decide +kernel)
theorem kw_309 : Cond.methodLink "TentPegs$Reader" 62 y_R_tell ∈ TT := tm 502 (by decide +kernel) (by decide +kernel)
theorem kw_310 : Cond.fieldLink "TentPegs" 43 "TentPegs" "reader" "LTentPegs$Reader;" ∈ TT := tm 281 (by decide +kernel) (by decide +kernel)
theorem kw_311 : Cond.methodLink "TentPegs" 135 y_R_goThrough ∈ TT := tm 403 (by decide +kernel) (by decide +kernel)
theorem kw_312 : Cond.fieldLink "TentPegs" 138 "TentPegs$Reader" "fault" "I" ∈ TT := tm 249 (by decide +kernel) (by decide +kernel)
theorem kw_313 : Cond.fieldLink "TentPegs" 141 "TentPegs$Reader" "refused" "I" ∈ TT := tm 251 (by decide +kernel) (by decide +kernel)
theorem kw_314 : Cond.fieldLink "TentPegs" 144 "TentPegs$Reader" "draft" "LTentPegs$Field;" ∈ TT := tm 240 (by decide +kernel) (by decide +kernel)
theorem kw_315 : Cond.fieldLink "TentPegs" 150 "TentPegs$Reader" "items" "I" ∈ TT := tm 247 (by decide +kernel) (by decide +kernel)
theorem s_R_spells : VY y_R_spells b_R_spells 3 (some .boolean) 1 := ⟨tm 434 (by decide +kernel) (by decide +kernel), tm 433 (by decide +kernel) (by decide +kernel), tm 7 (by decide +kernel) (by decide +kernel), tm 76 (by decide +kernel) (by decide +kernel), by decide +kernel⟩
theorem s_R_stepOverWord : VY y_R_stepOverWord b_R_stepOverWord 1 none 0 := ⟨tm 429 (by decide +kernel) (by decide +kernel), tm 428 (by decide +kernel) (by decide +kernel), tm 6 (by decide +kernel) (by decide +kernel), tm 76 (by decide +kernel) (by decide +kernel), by decide +kernel⟩
theorem s_R_step : VY y_R_step b_R_step 1 none 0 := ⟨tm 417 (by decide +kernel) (by decide +kernel), tm 416 (by decide +kernel) (by decide +kernel), tm 4 (by decide +kernel) (by decide +kernel), tm 76 (by decide +kernel) (by decide +kernel), by decide +kernel⟩
theorem s_R_isItem : VY y_R_isItem b_R_isItem 4 (some .boolean) 1 := ⟨tm 498 (by decide +kernel) (by decide +kernel), tm 497 (by decide +kernel) (by decide +kernel), tm 9 (by decide +kernel) (by decide +kernel), tm 76 (by decide +kernel) (by decide +kernel), by decide +kernel⟩
theorem s_R_goThrough : VY y_R_goThrough b_R_goThrough 3 none 1 := ⟨tm 406 (by decide +kernel) (by decide +kernel), tm 404 (by decide +kernel) (by decide +kernel), tm 405 (by decide +kernel) (by decide +kernel), tm 76 (by decide +kernel) (by decide +kernel), by decide +kernel⟩
theorem s_T_read : VY y_T_read b_T_read 1 (some .int) 0 := ⟨tm 402 (by decide +kernel) (by decide +kernel), tm 400 (by decide +kernel) (by decide +kernel), tm 401 (by decide +kernel) (by decide +kernel), tm 72 (by decide +kernel) (by decide +kernel), by decide +kernel⟩
theorem d_R_spells_0 : decode b_R_spells 0 = .ok (.aload_n 1, 1) := by decide +kernel
theorem d_R_spells_1 : decode b_R_spells 1 = .ok (.invokevirtual 179, 3) := by decide +kernel
theorem d_R_spells_4 : decode b_R_spells 4 = .ok (.aload_n 0, 1) := by decide +kernel
theorem d_R_spells_5 : decode b_R_spells 5 = .ok (.getfield 26, 3) := by decide +kernel
theorem d_R_spells_8 : decode b_R_spells 8 = .ok (.aload_n 0, 1) := by decide +kernel
theorem d_R_spells_9 : decode b_R_spells 9 = .ok (.getfield 29, 3) := by decide +kernel
theorem d_R_spells_12 : decode b_R_spells 12 = .ok (.isub, 1) := by decide +kernel
theorem d_R_spells_13 : decode b_R_spells 13 = .ok (.if_icmp .eq 5, 3) := by decide +kernel
theorem d_R_spells_16 : decode b_R_spells 16 = .ok (.iconst 0, 1) := by decide +kernel
theorem d_R_spells_17 : decode b_R_spells 17 = .ok (.ireturn, 1) := by decide +kernel
theorem d_R_spells_18 : decode b_R_spells 18 = .ok (.iconst 0, 1) := by decide +kernel
theorem d_R_spells_19 : decode b_R_spells 19 = .ok (.istore_n 2, 1) := by decide +kernel
theorem d_R_spells_20 : decode b_R_spells 20 = .ok (.iload_n 2, 1) := by decide +kernel
theorem d_R_spells_21 : decode b_R_spells 21 = .ok (.aload_n 1, 1) := by decide +kernel
theorem d_R_spells_22 : decode b_R_spells 22 = .ok (.invokevirtual 179, 3) := by decide +kernel
theorem d_R_spells_25 : decode b_R_spells 25 = .ok (.if_icmp .ge 30, 3) := by decide +kernel
theorem d_R_spells_28 : decode b_R_spells 28 = .ok (.aload_n 0, 1) := by decide +kernel
theorem d_R_spells_29 : decode b_R_spells 29 = .ok (.getfield 47, 3) := by decide +kernel
theorem d_R_spells_32 : decode b_R_spells 32 = .ok (.aload_n 0, 1) := by decide +kernel
theorem d_R_spells_33 : decode b_R_spells 33 = .ok (.getfield 29, 3) := by decide +kernel
theorem d_R_spells_36 : decode b_R_spells 36 = .ok (.iload_n 2, 1) := by decide +kernel
theorem d_R_spells_37 : decode b_R_spells 37 = .ok (.iadd, 1) := by decide +kernel
theorem d_R_spells_38 : decode b_R_spells 38 = .ok (.baload, 1) := by decide +kernel
theorem d_R_spells_39 : decode b_R_spells 39 = .ok (.aload_n 1, 1) := by decide +kernel
theorem d_R_spells_40 : decode b_R_spells 40 = .ok (.iload_n 2, 1) := by decide +kernel
theorem d_R_spells_41 : decode b_R_spells 41 = .ok (.invokevirtual 184, 3) := by decide +kernel
theorem d_R_spells_44 : decode b_R_spells 44 = .ok (.if_icmp .eq 5, 3) := by decide +kernel
theorem d_R_spells_47 : decode b_R_spells 47 = .ok (.iconst 0, 1) := by decide +kernel
theorem d_R_spells_48 : decode b_R_spells 48 = .ok (.ireturn, 1) := by decide +kernel
theorem d_R_spells_49 : decode b_R_spells 49 = .ok (.iinc 2 1, 3) := by decide +kernel
theorem d_R_spells_52 : decode b_R_spells 52 = .ok (.goto (-32), 3) := by decide +kernel
theorem d_R_spells_55 : decode b_R_spells 55 = .ok (.iconst 1, 1) := by decide +kernel
theorem d_R_spells_56 : decode b_R_spells 56 = .ok (.ireturn, 1) := by decide +kernel
theorem d_R_stepOverWord_0 : decode b_R_stepOverWord 0 = .ok (.aload_n 0, 1) := by decide +kernel
theorem d_R_stepOverWord_1 : decode b_R_stepOverWord 1 = .ok (.getfield 26, 3) := by decide +kernel
theorem d_R_stepOverWord_4 : decode b_R_stepOverWord 4 = .ok (.aload_n 0, 1) := by decide +kernel
theorem d_R_stepOverWord_5 : decode b_R_stepOverWord 5 = .ok (.getfield 22, 3) := by decide +kernel
theorem d_R_stepOverWord_8 : decode b_R_stepOverWord 8 = .ok (.if_icmp .ge 31, 3) := by decide +kernel
theorem d_R_stepOverWord_11 : decode b_R_stepOverWord 11 = .ok (.aload_n 0, 1) := by decide +kernel
theorem d_R_stepOverWord_12 : decode b_R_stepOverWord 12 = .ok (.getfield 47, 3) := by decide +kernel
theorem d_R_stepOverWord_15 : decode b_R_stepOverWord 15 = .ok (.aload_n 0, 1) := by decide +kernel
theorem d_R_stepOverWord_16 : decode b_R_stepOverWord 16 = .ok (.getfield 26, 3) := by decide +kernel
theorem d_R_stepOverWord_19 : decode b_R_stepOverWord 19 = .ok (.baload, 1) := by decide +kernel
theorem d_R_stepOverWord_20 : decode b_R_stepOverWord 20 = .ok (.invokestatic 146, 3) := by decide +kernel
theorem d_R_stepOverWord_23 : decode b_R_stepOverWord 23 = .ok (.ifCond .eq 16, 3) := by decide +kernel
theorem d_R_stepOverWord_26 : decode b_R_stepOverWord 26 = .ok (.aload_n 0, 1) := by decide +kernel
theorem d_R_stepOverWord_27 : decode b_R_stepOverWord 27 = .ok (.dup, 1) := by decide +kernel
theorem d_R_stepOverWord_28 : decode b_R_stepOverWord 28 = .ok (.getfield 26, 3) := by decide +kernel
theorem d_R_stepOverWord_31 : decode b_R_stepOverWord 31 = .ok (.iconst 1, 1) := by decide +kernel
theorem d_R_stepOverWord_32 : decode b_R_stepOverWord 32 = .ok (.iadd, 1) := by decide +kernel
theorem d_R_stepOverWord_33 : decode b_R_stepOverWord 33 = .ok (.putfield 26, 3) := by decide +kernel
theorem d_R_stepOverWord_36 : decode b_R_stepOverWord 36 = .ok (.goto (-36), 3) := by decide +kernel
theorem d_R_stepOverWord_39 : decode b_R_stepOverWord 39 = .ok (.aload_n 0, 1) := by decide +kernel
theorem d_R_stepOverWord_40 : decode b_R_stepOverWord 40 = .ok (.aload_n 0, 1) := by decide +kernel
theorem d_R_stepOverWord_41 : decode b_R_stepOverWord 41 = .ok (.ldc 159, 2) := by decide +kernel
theorem d_R_stepOverWord_43 : decode b_R_stepOverWord 43 = .ok (.invokevirtual 161, 3) := by decide +kernel
theorem d_R_stepOverWord_46 : decode b_R_stepOverWord 46 = .ok (.ifCond .eq 7, 3) := by decide +kernel
theorem d_R_stepOverWord_49 : decode b_R_stepOverWord 49 = .ok (.iconst 4, 1) := by decide +kernel
theorem d_R_stepOverWord_50 : decode b_R_stepOverWord 50 = .ok (.goto 73, 3) := by decide +kernel
theorem d_R_stepOverWord_53 : decode b_R_stepOverWord 53 = .ok (.aload_n 0, 1) := by decide +kernel
theorem d_R_stepOverWord_54 : decode b_R_stepOverWord 54 = .ok (.ldc 165, 2) := by decide +kernel
theorem d_R_stepOverWord_56 : decode b_R_stepOverWord 56 = .ok (.invokevirtual 161, 3) := by decide +kernel
theorem d_R_stepOverWord_59 : decode b_R_stepOverWord 59 = .ok (.ifCond .eq 7, 3) := by decide +kernel
theorem d_R_stepOverWord_62 : decode b_R_stepOverWord 62 = .ok (.iconst 5, 1) := by decide +kernel
theorem d_R_stepOverWord_63 : decode b_R_stepOverWord 63 = .ok (.goto 60, 3) := by decide +kernel
theorem d_R_stepOverWord_66 : decode b_R_stepOverWord 66 = .ok (.aload_n 0, 1) := by decide +kernel
theorem d_R_stepOverWord_67 : decode b_R_stepOverWord 67 = .ok (.ldc 167, 2) := by decide +kernel
theorem d_R_stepOverWord_69 : decode b_R_stepOverWord 69 = .ok (.invokevirtual 161, 3) := by decide +kernel
theorem d_R_stepOverWord_72 : decode b_R_stepOverWord 72 = .ok (.ifCond .eq 8, 3) := by decide +kernel
theorem d_R_stepOverWord_75 : decode b_R_stepOverWord 75 = .ok (.bipush 6, 2) := by decide +kernel
theorem d_R_stepOverWord_77 : decode b_R_stepOverWord 77 = .ok (.goto 46, 3) := by decide +kernel
theorem d_R_stepOverWord_80 : decode b_R_stepOverWord 80 = .ok (.aload_n 0, 1) := by decide +kernel
theorem d_R_stepOverWord_81 : decode b_R_stepOverWord 81 = .ok (.ldc 169, 2) := by decide +kernel
theorem d_R_stepOverWord_83 : decode b_R_stepOverWord 83 = .ok (.invokevirtual 161, 3) := by decide +kernel
theorem d_R_stepOverWord_86 : decode b_R_stepOverWord 86 = .ok (.ifCond .eq 8, 3) := by decide +kernel
theorem d_R_stepOverWord_89 : decode b_R_stepOverWord 89 = .ok (.bipush 7, 2) := by decide +kernel
theorem d_R_stepOverWord_91 : decode b_R_stepOverWord 91 = .ok (.goto 32, 3) := by decide +kernel
theorem d_R_stepOverWord_94 : decode b_R_stepOverWord 94 = .ok (.aload_n 0, 1) := by decide +kernel
theorem d_R_stepOverWord_95 : decode b_R_stepOverWord 95 = .ok (.ldc 171, 2) := by decide +kernel
theorem d_R_stepOverWord_97 : decode b_R_stepOverWord 97 = .ok (.invokevirtual 161, 3) := by decide +kernel
theorem d_R_stepOverWord_100 : decode b_R_stepOverWord 100 = .ok (.ifCond .eq 8, 3) := by decide +kernel
theorem d_R_stepOverWord_103 : decode b_R_stepOverWord 103 = .ok (.bipush 8, 2) := by decide +kernel
theorem d_R_stepOverWord_105 : decode b_R_stepOverWord 105 = .ok (.goto 18, 3) := by decide +kernel
theorem d_R_stepOverWord_108 : decode b_R_stepOverWord 108 = .ok (.aload_n 0, 1) := by decide +kernel
theorem d_R_stepOverWord_109 : decode b_R_stepOverWord 109 = .ok (.ldc 173, 2) := by decide +kernel
theorem d_R_stepOverWord_111 : decode b_R_stepOverWord 111 = .ok (.invokevirtual 161, 3) := by decide +kernel
theorem d_R_stepOverWord_114 : decode b_R_stepOverWord 114 = .ok (.ifCond .eq 8, 3) := by decide +kernel
theorem d_R_stepOverWord_117 : decode b_R_stepOverWord 117 = .ok (.bipush 9, 2) := by decide +kernel
theorem d_R_stepOverWord_119 : decode b_R_stepOverWord 119 = .ok (.goto 4, 3) := by decide +kernel
theorem d_R_stepOverWord_122 : decode b_R_stepOverWord 122 = .ok (.iconst 0, 1) := by decide +kernel
theorem d_R_stepOverWord_123 : decode b_R_stepOverWord 123 = .ok (.putfield 32, 3) := by decide +kernel
theorem d_R_stepOverWord_126 : decode b_R_stepOverWord 126 = .ok (.return_, 1) := by decide +kernel
theorem d_R_step_0 : decode b_R_step 0 = .ok (.aload_n 0, 1) := by decide +kernel
theorem d_R_step_1 : decode b_R_step 1 = .ok (.invokevirtual 143, 3) := by decide +kernel
theorem d_R_step_4 : decode b_R_step 4 = .ok (.aload_n 0, 1) := by decide +kernel
theorem d_R_step_5 : decode b_R_step 5 = .ok (.aload_n 0, 1) := by decide +kernel
theorem d_R_step_6 : decode b_R_step 6 = .ok (.getfield 26, 3) := by decide +kernel
theorem d_R_step_9 : decode b_R_step 9 = .ok (.putfield 29, 3) := by decide +kernel
theorem d_R_step_12 : decode b_R_step 12 = .ok (.aload_n 0, 1) := by decide +kernel
theorem d_R_step_13 : decode b_R_step 13 = .ok (.getfield 26, 3) := by decide +kernel
theorem d_R_step_16 : decode b_R_step 16 = .ok (.aload_n 0, 1) := by decide +kernel
theorem d_R_step_17 : decode b_R_step 17 = .ok (.getfield 22, 3) := by decide +kernel
theorem d_R_step_20 : decode b_R_step 20 = .ok (.if_icmp .lt 11, 3) := by decide +kernel
theorem d_R_step_23 : decode b_R_step 23 = .ok (.aload_n 0, 1) := by decide +kernel
theorem d_R_step_24 : decode b_R_step 24 = .ok (.iconst 1, 1) := by decide +kernel
theorem d_R_step_25 : decode b_R_step 25 = .ok (.putfield 32, 3) := by decide +kernel
theorem d_R_step_28 : decode b_R_step 28 = .ok (.goto 80, 3) := by decide +kernel
theorem d_R_step_31 : decode b_R_step 31 = .ok (.aload_n 0, 1) := by decide +kernel
theorem d_R_step_32 : decode b_R_step 32 = .ok (.getfield 47, 3) := by decide +kernel
theorem d_R_step_35 : decode b_R_step 35 = .ok (.aload_n 0, 1) := by decide +kernel
theorem d_R_step_36 : decode b_R_step 36 = .ok (.getfield 26, 3) := by decide +kernel
theorem d_R_step_39 : decode b_R_step 39 = .ok (.baload, 1) := by decide +kernel
theorem d_R_step_40 : decode b_R_step 40 = .ok (.invokestatic 146, 3) := by decide +kernel
theorem d_R_step_43 : decode b_R_step 43 = .ok (.ifCond .eq 10, 3) := by decide +kernel
theorem d_R_step_46 : decode b_R_step 46 = .ok (.aload_n 0, 1) := by decide +kernel
theorem d_R_step_47 : decode b_R_step 47 = .ok (.invokevirtual 150, 3) := by decide +kernel
theorem d_R_step_50 : decode b_R_step 50 = .ok (.goto 58, 3) := by decide +kernel
theorem d_R_step_53 : decode b_R_step 53 = .ok (.aload_n 0, 1) := by decide +kernel
theorem d_R_step_54 : decode b_R_step 54 = .ok (.getfield 47, 3) := by decide +kernel
theorem d_R_step_57 : decode b_R_step 57 = .ok (.aload_n 0, 1) := by decide +kernel
theorem d_R_step_58 : decode b_R_step 58 = .ok (.getfield 26, 3) := by decide +kernel
theorem d_R_step_61 : decode b_R_step 61 = .ok (.baload, 1) := by decide +kernel
theorem d_R_step_62 : decode b_R_step 62 = .ok (.invokestatic 153, 3) := by decide +kernel
theorem d_R_step_65 : decode b_R_step 65 = .ok (.ifCond .eq 10, 3) := by decide +kernel
theorem d_R_step_68 : decode b_R_step 68 = .ok (.aload_n 0, 1) := by decide +kernel
theorem d_R_step_69 : decode b_R_step 69 = .ok (.invokevirtual 156, 3) := by decide +kernel
theorem d_R_step_72 : decode b_R_step 72 = .ok (.goto 36, 3) := by decide +kernel
theorem d_R_step_75 : decode b_R_step 75 = .ok (.aload_n 0, 1) := by decide +kernel
theorem d_R_step_76 : decode b_R_step 76 = .ok (.aload_n 0, 1) := by decide +kernel
theorem d_R_step_77 : decode b_R_step 77 = .ok (.getfield 47, 3) := by decide +kernel
theorem d_R_step_80 : decode b_R_step 80 = .ok (.aload_n 0, 1) := by decide +kernel
theorem d_R_step_81 : decode b_R_step 81 = .ok (.getfield 26, 3) := by decide +kernel
theorem d_R_step_84 : decode b_R_step 84 = .ok (.baload, 1) := by decide +kernel
theorem d_R_step_85 : decode b_R_step 85 = .ok (.bipush 59, 2) := by decide +kernel
theorem d_R_step_87 : decode b_R_step 87 = .ok (.if_icmp .ne 7, 3) := by decide +kernel
theorem d_R_step_90 : decode b_R_step 90 = .ok (.iconst 3, 1) := by decide +kernel
theorem d_R_step_91 : decode b_R_step 91 = .ok (.goto 4, 3) := by decide +kernel
theorem d_R_step_94 : decode b_R_step 94 = .ok (.iconst 0, 1) := by decide +kernel
theorem d_R_step_95 : decode b_R_step 95 = .ok (.putfield 32, 3) := by decide +kernel
theorem d_R_step_98 : decode b_R_step 98 = .ok (.aload_n 0, 1) := by decide +kernel
theorem d_R_step_99 : decode b_R_step 99 = .ok (.dup, 1) := by decide +kernel
theorem d_R_step_100 : decode b_R_step 100 = .ok (.getfield 26, 3) := by decide +kernel
theorem d_R_step_103 : decode b_R_step 103 = .ok (.iconst 1, 1) := by decide +kernel
theorem d_R_step_104 : decode b_R_step 104 = .ok (.iadd, 1) := by decide +kernel
theorem d_R_step_105 : decode b_R_step 105 = .ok (.putfield 26, 3) := by decide +kernel
theorem d_R_step_108 : decode b_R_step 108 = .ok (.return_, 1) := by decide +kernel
theorem d_R_isItem_0 : decode b_R_isItem 0 = .ok (.aload_n 0, 1) := by decide +kernel
theorem d_R_isItem_1 : decode b_R_isItem 1 = .ok (.getfield 38, 3) := by decide +kernel
theorem d_R_isItem_4 : decode b_R_isItem 4 = .ok (.ifCond .ne 16, 3) := by decide +kernel
theorem d_R_isItem_7 : decode b_R_isItem 7 = .ok (.iload_n 1, 1) := by decide +kernel
theorem d_R_isItem_8 : decode b_R_isItem 8 = .ok (.iconst 4, 1) := by decide +kernel
theorem d_R_isItem_9 : decode b_R_isItem 9 = .ok (.if_icmp .ne 7, 3) := by decide +kernel
theorem d_R_isItem_12 : decode b_R_isItem 12 = .ok (.iconst 1, 1) := by decide +kernel
theorem d_R_isItem_13 : decode b_R_isItem 13 = .ok (.goto 17, 3) := by decide +kernel
theorem d_R_isItem_16 : decode b_R_isItem 16 = .ok (.iconst 0, 1) := by decide +kernel
theorem d_R_isItem_17 : decode b_R_isItem 17 = .ok (.goto 13, 3) := by decide +kernel
theorem d_R_isItem_20 : decode b_R_isItem 20 = .ok (.iload_n 1, 1) := by decide +kernel
theorem d_R_isItem_21 : decode b_R_isItem 21 = .ok (.iconst 4, 1) := by decide +kernel
theorem d_R_isItem_22 : decode b_R_isItem 22 = .ok (.if_icmp .le 7, 3) := by decide +kernel
theorem d_R_isItem_25 : decode b_R_isItem 25 = .ok (.iconst 1, 1) := by decide +kernel
theorem d_R_isItem_26 : decode b_R_isItem 26 = .ok (.goto 4, 3) := by decide +kernel
theorem d_R_isItem_29 : decode b_R_isItem 29 = .ok (.iconst 0, 1) := by decide +kernel
theorem d_R_isItem_30 : decode b_R_isItem 30 = .ok (.istore_n 2, 1) := by decide +kernel
theorem d_R_isItem_31 : decode b_R_isItem 31 = .ok (.iload_n 2, 1) := by decide +kernel
theorem d_R_isItem_32 : decode b_R_isItem 32 = .ok (.ifCond .ne 5, 3) := by decide +kernel
theorem d_R_isItem_35 : decode b_R_isItem 35 = .ok (.iconst 0, 1) := by decide +kernel
theorem d_R_isItem_36 : decode b_R_isItem 36 = .ok (.ireturn, 1) := by decide +kernel
theorem d_R_isItem_37 : decode b_R_isItem 37 = .ok (.iconst 0, 1) := by decide +kernel
theorem d_R_isItem_38 : decode b_R_isItem 38 = .ok (.istore_n 3, 1) := by decide +kernel
theorem d_R_isItem_39 : decode b_R_isItem 39 = .ok (.iload_n 3, 1) := by decide +kernel
theorem d_R_isItem_40 : decode b_R_isItem 40 = .ok (.iload_n 1, 1) := by decide +kernel
theorem d_R_isItem_41 : decode b_R_isItem 41 = .ok (.invokestatic 71, 3) := by decide +kernel
theorem d_R_isItem_44 : decode b_R_isItem 44 = .ok (.if_icmp .ge 33, 3) := by decide +kernel
theorem d_R_isItem_47 : decode b_R_isItem 47 = .ok (.aload_n 0, 1) := by decide +kernel
theorem d_R_isItem_48 : decode b_R_isItem 48 = .ok (.invokevirtual 55, 3) := by decide +kernel
theorem d_R_isItem_51 : decode b_R_isItem 51 = .ok (.aload_n 0, 1) := by decide +kernel
theorem d_R_isItem_52 : decode b_R_isItem 52 = .ok (.getfield 32, 3) := by decide +kernel
theorem d_R_isItem_55 : decode b_R_isItem 55 = .ok (.iconst 2, 1) := by decide +kernel
theorem d_R_isItem_56 : decode b_R_isItem 56 = .ok (.if_icmp .eq 5, 3) := by decide +kernel
theorem d_R_isItem_59 : decode b_R_isItem 59 = .ok (.iconst 0, 1) := by decide +kernel
theorem d_R_isItem_60 : decode b_R_isItem 60 = .ok (.ireturn, 1) := by decide +kernel
theorem d_R_isItem_61 : decode b_R_isItem 61 = .ok (.aload_n 0, 1) := by decide +kernel
theorem d_R_isItem_62 : decode b_R_isItem 62 = .ok (.getfield 9, 3) := by decide +kernel
theorem d_R_isItem_65 : decode b_R_isItem 65 = .ok (.iload_n 3, 1) := by decide +kernel
theorem d_R_isItem_66 : decode b_R_isItem 66 = .ok (.aload_n 0, 1) := by decide +kernel
theorem d_R_isItem_67 : decode b_R_isItem 67 = .ok (.getfield 35, 3) := by decide +kernel
theorem d_R_isItem_70 : decode b_R_isItem 70 = .ok (.iastore, 1) := by decide +kernel
theorem d_R_isItem_71 : decode b_R_isItem 71 = .ok (.iinc 3 1, 3) := by decide +kernel
theorem d_R_isItem_74 : decode b_R_isItem 74 = .ok (.goto (-35), 3) := by decide +kernel
theorem d_R_isItem_77 : decode b_R_isItem 77 = .ok (.aload_n 0, 1) := by decide +kernel
theorem d_R_isItem_78 : decode b_R_isItem 78 = .ok (.invokevirtual 55, 3) := by decide +kernel
theorem d_R_isItem_81 : decode b_R_isItem 81 = .ok (.aload_n 0, 1) := by decide +kernel
theorem d_R_isItem_82 : decode b_R_isItem 82 = .ok (.getfield 32, 3) := by decide +kernel
theorem d_R_isItem_85 : decode b_R_isItem 85 = .ok (.iconst 3, 1) := by decide +kernel
theorem d_R_isItem_86 : decode b_R_isItem 86 = .ok (.if_icmp .ne 7, 3) := by decide +kernel
theorem d_R_isItem_89 : decode b_R_isItem 89 = .ok (.iconst 1, 1) := by decide +kernel
theorem d_R_isItem_90 : decode b_R_isItem 90 = .ok (.goto 4, 3) := by decide +kernel
theorem d_R_isItem_93 : decode b_R_isItem 93 = .ok (.iconst 0, 1) := by decide +kernel
theorem d_R_isItem_94 : decode b_R_isItem 94 = .ok (.ireturn, 1) := by decide +kernel
theorem d_R_goThrough_0 : decode b_R_goThrough 0 = .ok (.aload_n 0, 1) := by decide +kernel
theorem d_R_goThrough_1 : decode b_R_goThrough 1 = .ok (.iload_n 1, 1) := by decide +kernel
theorem d_R_goThrough_2 : decode b_R_goThrough 2 = .ok (.invokevirtual 51, 3) := by decide +kernel
theorem d_R_goThrough_5 : decode b_R_goThrough 5 = .ok (.aload_n 0, 1) := by decide +kernel
theorem d_R_goThrough_6 : decode b_R_goThrough 6 = .ok (.invokevirtual 55, 3) := by decide +kernel
theorem d_R_goThrough_9 : decode b_R_goThrough 9 = .ok (.aload_n 0, 1) := by decide +kernel
theorem d_R_goThrough_10 : decode b_R_goThrough 10 = .ok (.getfield 38, 3) := by decide +kernel
theorem d_R_goThrough_13 : decode b_R_goThrough 13 = .ok (.ifCond .eq 21, 3) := by decide +kernel
theorem d_R_goThrough_16 : decode b_R_goThrough 16 = .ok (.aload_n 0, 1) := by decide +kernel
theorem d_R_goThrough_17 : decode b_R_goThrough 17 = .ok (.getfield 32, 3) := by decide +kernel
theorem d_R_goThrough_20 : decode b_R_goThrough 20 = .ok (.iconst 1, 1) := by decide +kernel
theorem d_R_goThrough_21 : decode b_R_goThrough 21 = .ok (.if_icmp .eq 76, 3) := by decide +kernel
theorem d_R_goThrough_24 : decode b_R_goThrough 24 = .ok (.aload_n 0, 1) := by decide +kernel
theorem d_R_goThrough_25 : decode b_R_goThrough 25 = .ok (.getfield 38, 3) := by decide +kernel
theorem d_R_goThrough_28 : decode b_R_goThrough 28 = .ok (.sipush 150, 3) := by decide +kernel
theorem d_R_goThrough_31 : decode b_R_goThrough 31 = .ok (.if_icmp .ge 66, 3) := by decide +kernel
theorem d_R_goThrough_34 : decode b_R_goThrough 34 = .ok (.aload_n 0, 1) := by decide +kernel
theorem d_R_goThrough_35 : decode b_R_goThrough 35 = .ok (.getfield 32, 3) := by decide +kernel
theorem d_R_goThrough_38 : decode b_R_goThrough 38 = .ok (.istore_n 2, 1) := by decide +kernel
theorem d_R_goThrough_39 : decode b_R_goThrough 39 = .ok (.aload_n 0, 1) := by decide +kernel
theorem d_R_goThrough_40 : decode b_R_goThrough 40 = .ok (.iload_n 2, 1) := by decide +kernel
theorem d_R_goThrough_41 : decode b_R_goThrough 41 = .ok (.invokevirtual 58, 3) := by decide +kernel
theorem d_R_goThrough_44 : decode b_R_goThrough 44 = .ok (.ifCond .ne 12, 3) := by decide +kernel
theorem d_R_goThrough_47 : decode b_R_goThrough 47 = .ok (.aload_n 0, 1) := by decide +kernel
theorem d_R_goThrough_48 : decode b_R_goThrough 48 = .ok (.aload_n 0, 1) := by decide +kernel
theorem d_R_goThrough_49 : decode b_R_goThrough 49 = .ok (.getfield 29, 3) := by decide +kernel
theorem d_R_goThrough_52 : decode b_R_goThrough 52 = .ok (.putfield 41, 3) := by decide +kernel
theorem d_R_goThrough_55 : decode b_R_goThrough 55 = .ok (.return_, 1) := by decide +kernel
theorem d_R_goThrough_56 : decode b_R_goThrough 56 = .ok (.aload_n 0, 1) := by decide +kernel
theorem d_R_goThrough_57 : decode b_R_goThrough 57 = .ok (.getfield 44, 3) := by decide +kernel
theorem d_R_goThrough_60 : decode b_R_goThrough 60 = .ok (.iconst (-1), 1) := by decide +kernel
theorem d_R_goThrough_61 : decode b_R_goThrough 61 = .ok (.if_icmp .ne 19, 3) := by decide +kernel
theorem d_R_goThrough_64 : decode b_R_goThrough 64 = .ok (.aload_n 0, 1) := by decide +kernel
theorem d_R_goThrough_65 : decode b_R_goThrough 65 = .ok (.iload_n 2, 1) := by decide +kernel
theorem d_R_goThrough_66 : decode b_R_goThrough 66 = .ok (.invokevirtual 62, 3) := by decide +kernel
theorem d_R_goThrough_69 : decode b_R_goThrough 69 = .ok (.ifCond .ne 11, 3) := by decide +kernel
theorem d_R_goThrough_72 : decode b_R_goThrough 72 = .ok (.aload_n 0, 1) := by decide +kernel
theorem d_R_goThrough_73 : decode b_R_goThrough 73 = .ok (.aload_n 0, 1) := by decide +kernel
theorem d_R_goThrough_74 : decode b_R_goThrough 74 = .ok (.getfield 38, 3) := by decide +kernel
theorem d_R_goThrough_77 : decode b_R_goThrough 77 = .ok (.putfield 44, 3) := by decide +kernel
theorem d_R_goThrough_80 : decode b_R_goThrough 80 = .ok (.aload_n 0, 1) := by decide +kernel
theorem d_R_goThrough_81 : decode b_R_goThrough 81 = .ok (.dup, 1) := by decide +kernel
theorem d_R_goThrough_82 : decode b_R_goThrough 82 = .ok (.getfield 38, 3) := by decide +kernel
theorem d_R_goThrough_85 : decode b_R_goThrough 85 = .ok (.iconst 1, 1) := by decide +kernel
theorem d_R_goThrough_86 : decode b_R_goThrough 86 = .ok (.iadd, 1) := by decide +kernel
theorem d_R_goThrough_87 : decode b_R_goThrough 87 = .ok (.putfield 38, 3) := by decide +kernel
theorem d_R_goThrough_90 : decode b_R_goThrough 90 = .ok (.aload_n 0, 1) := by decide +kernel
theorem d_R_goThrough_91 : decode b_R_goThrough 91 = .ok (.invokevirtual 55, 3) := by decide +kernel
theorem d_R_goThrough_94 : decode b_R_goThrough 94 = .ok (.goto (-85), 3) := by decide +kernel
theorem d_R_goThrough_97 : decode b_R_goThrough 97 = .ok (.return_, 1) := by decide +kernel
theorem d_T_read_0 : decode b_T_read 0 = .ok (.aload_n 0, 1) := by decide +kernel
theorem d_T_read_1 : decode b_T_read 1 = .ok (.getfield 43, 3) := by decide +kernel
theorem d_T_read_4 : decode b_T_read 4 = .ok (.aload_n 0, 1) := by decide +kernel
theorem d_T_read_5 : decode b_T_read 5 = .ok (.getfield 55, 3) := by decide +kernel
theorem d_T_read_8 : decode b_T_read 8 = .ok (.invokevirtual 135, 3) := by decide +kernel
theorem d_T_read_11 : decode b_T_read 11 = .ok (.aload_n 0, 1) := by decide +kernel
theorem d_T_read_12 : decode b_T_read 12 = .ok (.getfield 43, 3) := by decide +kernel
theorem d_T_read_15 : decode b_T_read 15 = .ok (.getfield 138, 3) := by decide +kernel
theorem d_T_read_18 : decode b_T_read 18 = .ok (.iconst (-1), 1) := by decide +kernel
theorem d_T_read_19 : decode b_T_read 19 = .ok (.if_icmp .eq 14, 3) := by decide +kernel
theorem d_T_read_22 : decode b_T_read 22 = .ok (.bipush (-10), 2) := by decide +kernel
theorem d_T_read_24 : decode b_T_read 24 = .ok (.aload_n 0, 1) := by decide +kernel
theorem d_T_read_25 : decode b_T_read 25 = .ok (.getfield 43, 3) := by decide +kernel
theorem d_T_read_28 : decode b_T_read 28 = .ok (.getfield 138, 3) := by decide +kernel
theorem d_T_read_31 : decode b_T_read 31 = .ok (.isub, 1) := by decide +kernel
theorem d_T_read_32 : decode b_T_read 32 = .ok (.ireturn, 1) := by decide +kernel
theorem d_T_read_33 : decode b_T_read 33 = .ok (.aload_n 0, 1) := by decide +kernel
theorem d_T_read_34 : decode b_T_read 34 = .ok (.getfield 43, 3) := by decide +kernel
theorem d_T_read_37 : decode b_T_read 37 = .ok (.getfield 141, 3) := by decide +kernel
theorem d_T_read_40 : decode b_T_read 40 = .ok (.iconst (-1), 1) := by decide +kernel
theorem d_T_read_41 : decode b_T_read 41 = .ok (.if_icmp .eq 15, 3) := by decide +kernel
theorem d_T_read_44 : decode b_T_read 44 = .ok (.sipush (-1000), 3) := by decide +kernel
theorem d_T_read_47 : decode b_T_read 47 = .ok (.aload_n 0, 1) := by decide +kernel
theorem d_T_read_48 : decode b_T_read 48 = .ok (.getfield 43, 3) := by decide +kernel
theorem d_T_read_51 : decode b_T_read 51 = .ok (.getfield 141, 3) := by decide +kernel
theorem d_T_read_54 : decode b_T_read 54 = .ok (.isub, 1) := by decide +kernel
theorem d_T_read_55 : decode b_T_read 55 = .ok (.ireturn, 1) := by decide +kernel
theorem d_T_read_56 : decode b_T_read 56 = .ok (.aload_n 0, 1) := by decide +kernel
theorem d_T_read_57 : decode b_T_read 57 = .ok (.getfield 10, 3) := by decide +kernel
theorem d_T_read_60 : decode b_T_read 60 = .ok (.aload_n 0, 1) := by decide +kernel
theorem d_T_read_61 : decode b_T_read 61 = .ok (.getfield 43, 3) := by decide +kernel
theorem d_T_read_64 : decode b_T_read 64 = .ok (.getfield 144, 3) := by decide +kernel
theorem d_T_read_67 : decode b_T_read 67 = .ok (.invokevirtual 147, 3) := by decide +kernel
theorem d_T_read_70 : decode b_T_read 70 = .ok (.aload_n 0, 1) := by decide +kernel
theorem d_T_read_71 : decode b_T_read 71 = .ok (.getfield 43, 3) := by decide +kernel
theorem d_T_read_74 : decode b_T_read 74 = .ok (.getfield 150, 3) := by decide +kernel
theorem d_T_read_77 : decode b_T_read 77 = .ok (.ireturn, 1) := by decide +kernel
-- TentPegs$Reader.spells(Ljava/lang/String;)Z
def S_R_spells_20  (K20 : Mem → Nat → Int32 → Option Int32) (μ : Mem) (x1 : Nat) (x2 : Int32) : Option Int32 := (gd (decide (x1 < 6)) (if (Int32.ofNat (slen x1)) ≤ x2 then (some (1 : Int32)) else (gd (inb ((μ.1 14 5) + x2) 150) (gd (decide (x1 < 6)) (gd (inb x2 (slen x1)) (if ((μ.1 13) ((μ.1 14 5) + x2).toNatClampNeg) = (((schr x1 x2.toNatClampNeg &&& 255).toUInt32 % 65536).toInt32) then (K20 μ x1 (x2 + (1 : Int32))) else (some (0 : Int32))))))))
def F_R_spells_20  : Mem → Nat → Int32 → Option Int32 := iter (S_R_spells_20 ) (fun _ _ _ => none) NF
def F_R_spells (μ : Mem) (x1 : Nat) : Option Int32 := (gd (decide (x1 < 6)) (if (Int32.ofNat (slen x1)) = ((μ.1 14 4) - (μ.1 14 5)) then (F_R_spells_20 μ x1 (0 : Int32)) else (some (0 : Int32))))
-- TentPegs$Reader.stepOverWord()V
def F_R_stepOverWord_39  (μ : Mem)  : Option Mem := (bnd (F_R_spells μ 0) (fun r1 => (if r1 = 0 then (bnd (F_R_spells μ 1) (fun r2 => (if r2 = 0 then (bnd (F_R_spells μ 2) (fun r3 => (if r3 = 0 then (bnd (F_R_spells μ 3) (fun r4 => (if r4 = 0 then (bnd (F_R_spells μ 4) (fun r5 => (if r5 = 0 then (bnd (F_R_spells μ 5) (fun r6 => (if r6 = 0 then (some (stI μ 14 6 (0 : Int32))) else (some (stI μ 14 6 (9 : Int32)))))) else (some (stI μ 14 6 (8 : Int32)))))) else (some (stI μ 14 6 (7 : Int32)))))) else (some (stI μ 14 6 (6 : Int32)))))) else (some (stI μ 14 6 (5 : Int32)))))) else (some (stI μ 14 6 (4 : Int32))))))
def S_R_stepOverWord_0  (K0 : Mem → Option Mem) (μ : Mem)  : Option Mem := (if (μ.1 14 3) ≤ (μ.1 14 4) then (F_R_stepOverWord_39 μ) else (gd (inb (μ.1 14 4) 150) (bnd (F_R_isLetter ((μ.1 13) (μ.1 14 4).toNatClampNeg)) (fun r1 => (if r1 = 0 then (F_R_stepOverWord_39 μ) else (K0 (stI μ 14 4 ((μ.1 14 4) + (1 : Int32)))))))))
def F_R_stepOverWord_0  : Mem → Option Mem := iter (S_R_stepOverWord_0 ) (fun _ => none) NF
def F_R_stepOverWord (μ : Mem)  : Option Mem := (F_R_stepOverWord_0 μ)
-- TentPegs$Reader.step()V
def F_R_step_95  (μ : Mem) (s0 : Int32) : Option Mem := (some (stI (stI μ 14 6 s0) 14 4 ((μ.1 14 4) + (1 : Int32))))
def F_R_step (μ : Mem)  : Option Mem := (bnd (F_R_skipBlanks μ ) (fun m1 => (if (m1.1 14 4) < (m1.1 14 3) then (gd (inb (m1.1 14 4) 150) (bnd (F_R_isLetter ((m1.1 13) (m1.1 14 4).toNatClampNeg)) (fun r2 => (if r2 = 0 then (gd (inb (m1.1 14 4) 150) (bnd (F_R_isFigure ((m1.1 13) (m1.1 14 4).toNatClampNeg)) (fun r3 => (if r3 = 0 then (gd (inb (m1.1 14 4) 150) (if ((m1.1 13) (m1.1 14 4).toNatClampNeg) = (59 : Int32) then (F_R_step_95 (stI m1 14 5 (m1.1 14 4)) (3 : Int32)) else (F_R_step_95 (stI m1 14 5 (m1.1 14 4)) (0 : Int32)))) else (bnd (F_R_stepOverNumber (stI m1 14 5 (m1.1 14 4)) ) (fun m4 => (some m4))))))) else (bnd (F_R_stepOverWord (stI m1 14 5 (m1.1 14 4)) ) (fun m5 => (some m5))))))) else (some (stI (stI m1 14 5 (m1.1 14 4)) 14 6 (1 : Int32))))))
-- TentPegs$Reader.isItem(I)Z
def S_R_isItem_39  (K39 : Mem → Int32 → Int32 → Option (Int32 × Mem)) (μ : Mem) (x1 : Int32) (x3 : Int32) : Option (Int32 × Mem) := (bnd (F_R_numbersOf x1) (fun r1 => (if r1 ≤ x3 then (bnd (F_R_step μ ) (fun m2 => (if (m2.1 14 6) = (3 : Int32) then (some ((1 : Int32), m2)) else (some ((0 : Int32), m2))))) else (bnd (F_R_step μ ) (fun m3 => (if (m3.1 14 6) = (2 : Int32) then (gd (inb x3 4) (K39 (stI m3 15 x3.toNatClampNeg (m3.1 14 7)) x1 (x3 + (1 : Int32)))) else (some ((0 : Int32), m3))))))))
def F_R_isItem_39  : Mem → Int32 → Int32 → Option (Int32 × Mem) := iter (S_R_isItem_39 ) (fun _ _ _ => none) NF
def F_R_isItem_30  (μ : Mem) (x1 : Int32) (s0 : Int32) : Option (Int32 × Mem) := (if s0 = 0 then (some ((0 : Int32), μ)) else (F_R_isItem_39 μ x1 (0 : Int32)))
def F_R_isItem (μ : Mem) (x1 : Int32) : Option (Int32 × Mem) := (if (μ.1 14 8) = 0 then (if x1 = (4 : Int32) then (F_R_isItem_30 μ x1 (1 : Int32)) else (F_R_isItem_30 μ x1 (0 : Int32))) else (if x1 ≤ (4 : Int32) then (F_R_isItem_30 μ x1 (0 : Int32)) else (F_R_isItem_30 μ x1 (1 : Int32))))
-- TentPegs$Reader.goThrough(I)V
def F_R_goThrough_80 (K9 : Mem → Option Mem) (μ : Mem)  : Option Mem := (bnd (F_R_step (stI μ 14 8 ((μ.1 14 8) + (1 : Int32))) ) (fun m1 => (K9 m1)))
def F_R_goThrough_34 (K9 : Mem → Option Mem) (μ : Mem)  : Option Mem := (bnd (F_R_isItem μ (μ.1 14 6)) (fun q => (fun (r1 : Int32) (m1 : Mem) => (if r1 = 0 then (some (stI m1 14 9 (m1.1 14 5))) else (if (m1.1 14 10) = (-1 : Int32) then (bnd (F_R_tell m1 (μ.1 14 6)) (fun q => (fun (r2 : Int32) (m2 : Mem) => (if r2 = 0 then (F_R_goThrough_80 K9 (stI m2 14 10 (m2.1 14 8))) else (F_R_goThrough_80 K9 m2))) q.1 q.2)) else (F_R_goThrough_80 K9 m1)))) q.1 q.2))
def S_R_goThrough_9  (K9 : Mem → Option Mem) (μ : Mem)  : Option Mem := (if (μ.1 14 8) = 0 then (F_R_goThrough_34 K9 μ) else (if (μ.1 14 6) = (1 : Int32) then (some μ) else (if (150 : Int32) ≤ (μ.1 14 8) then (some μ) else (F_R_goThrough_34 K9 μ))))
def F_R_goThrough_9  : Mem → Option Mem := iter (S_R_goThrough_9 ) (fun _ => none) NF
def F_R_goThrough (μ : Mem) (x1 : Int32) : Option Mem := (bnd (F_R_begin μ x1) (fun m1 => (bnd (F_R_step m1 ) (fun m2 => (F_R_goThrough_9 m2)))))
-- TentPegs.read()I
def F_T_read (μ : Mem)  : Option (Int32 × Mem) := (bnd (F_R_goThrough μ (μ.1 0 7)) (fun m1 => (if (m1.1 14 9) = (-1 : Int32) then (if (m1.1 14 10) = (-1 : Int32) then (bnd (F_F_become (two 1 16 m1) ) (fun m2 => (some ((m1.1 14 8), (put6 1 0 (put6 16 6 m1 m2) m2))))) else (some (((-1000 : Int32) - (m1.1 14 10)), m1))) else (some (((-10 : Int32) - (m1.1 14 9)), m1)))))
